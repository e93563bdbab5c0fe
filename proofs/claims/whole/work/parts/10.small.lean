def b2i (c : Bool) : Int32 := if c then 1 else 0
theorem pI {post : PT} {x y : Int32} {f : FF} {a : AA} (h : post (some (.inl x)) f a) (e : x = y) : post (some (.inl y)) f a := e ▸ h
theorem pZ {post : PT} {x y : Int32} {f : FF} {a : AA} (h : post (some (.inl x)) f a) (e : x = y) (hx : x = 0 ∨ x = 1) : (y = 0 ∨ y = 1) ∧ post (some (.inl y)) f a := ⟨e ▸ hx, e ▸ h⟩
theorem b2i_01 (c : Bool) : b2i c = 0 ∨ b2i c = 1 := by cases c <;> simp [b2i]
def sX4_bit : SP := fun As f a Q => match As with
  | [.inl x] => Q (some (.inl (b2i (decide (¬ x = 0))))) f a
  | _ => False
def eX4_bit : En := (tX4_bit, [], fdX4, [], 0)
theorem eokX4_bit {g : Gm} (hg : GmOK g) : EnvOK g 0 RX4 cX4_bit (some .int) eX4_bit := ⟨okX4_bit, (fun _ _ _ _ h => by cases h), fdX4_ok, (fun _ _ h => by cases h), rfl⟩
theorem rX4_bit (av : List AV) (f : FF) (a : AA) (post : PT) (h : sX4_bit av f a post) (X : XT) (hX : Clo eX4_bit post X) : X 0 (padL 1 (ent av)) [] f a := by
  unfold sX4_bit at h
  split at h
  · refine hX [] 20 _ _ _ _ _ ?_
    refine ⟨fun c => ?_, fun c => ?_⟩
    · refine pI h ?_
      simp [b2i, c]
    · refine pI h ?_
      simp [b2i, c]
  · exact h.elim
theorem mX4_bit {g : Gm} (hg : GmOK g) : MetC g yX4_bit cX4_bit 1 (some .int) 0 sX4_bit := by
  refine MetC_of hg eX4_bit (eokX4_bit hg) (by decide +kernel) (fun av f a post h => ?_) rX4_bit
  unfold sX4_bit at h
  split at h
  · exact Nat.le_of_ble_eq_true rfl
  · exact h.elim
def sX1_hasFunction : SP := fun As f a Q => match As with
  | [.inr (.inr (1, p, 0)), .inl x] => Q (some (.inl (b2i (decide (0 ≤ x ∧ x < f 1 p 4))))) f a
  | _ => False
def eX1_hasFunction : En := (tX1_hasFunction, [], fdX1, [], 1)
theorem eokX1_hasFunction {g : Gm} (hg : GmOK g) : EnvOK g 0 RX1 cX1_hasFunction (some .boolean) eX1_hasFunction := ⟨okX1_hasFunction, (fun _ _ _ _ h => by cases h), fdX1_ok, (fun _ _ h => by cases h), rfl⟩
theorem rX1_hasFunction (av : List AV) (f : FF) (a : AA) (post : PT) (h : sX1_hasFunction av f a post) (X : XT) (hX : Clo eX1_hasFunction post X) : X 0 (padL 2 (ent av)) [] f a := by
  unfold sX1_hasFunction at h
  split at h
  · refine hX [] 20 _ _ _ _ _ ?_
    refine ⟨fun c => ?_, fun c => ⟨fun d => ?_, fun d => ?_⟩⟩
    · refine pZ h ?_ (b2i_01 _)
      trace_state
      simp [b2i, c]
    · refine pZ h ?_ (b2i_01 _)
      simp [b2i, c, d]
    · refine pZ h ?_ (b2i_01 _)
      simp [b2i, c, d]
  · exact h.elim
theorem shX1_hasFunction : ∀ As f a Q, sX1_hasFunction As f a Q → ∃ i r, As = .inr (.inr (1, i, 0)) :: r := by
  intro As f a Q h
  unfold sX1_hasFunction at h
  split at h
  · exact ⟨_, _, rfl⟩
  · exact h.elim
theorem mX1_hasFunction {g : Gm} (hg : GmOK g) : MetC g yX1_hasFunction cX1_hasFunction 2 (some .boolean) 0 sX1_hasFunction := by
  refine MetC_of hg eX1_hasFunction (eokX1_hasFunction hg) (by decide +kernel) (fun av f a post h => ?_) rX1_hasFunction
  unfold sX1_hasFunction at h
  split at h
  · exact Nat.le_of_ble_eq_true rfl
  · exact h.elim
