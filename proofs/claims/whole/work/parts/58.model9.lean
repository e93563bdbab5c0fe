/-! the reference counts components -/
theorem cpM_lt (P : Pg) (i : Nat) : ∀ n b, n ≤ 3 → b < 3 → cpM P i n b < 3
  | 0, _, _, hb => hb
  | n + 1, b, hn, hb => by
    unfold cpM
    refine cpM_lt P i n _ (by omega) ?_
    split
    · omega
    · exact hb
def cbM (P : Pg) (n : Nat) : Nat := cnt (fun j => decide (cpM P j j j = j)) n
def sX5_componentNumber : SP := fun As f a Q => match As with
  | [.inr (.inr (5, 0, 0)), .inl x] => ∃ P i, RM (a 5 0 0) P ∧ WF P ∧ f 5 0 20 = -4 ∧ x = nI i ∧ i < 3 ∧ Q (some (.inl (nI (cbM P (cpM P i i i))))) f a
  | _ => False
def eX5_componentNumber : En := (tX5_componentNumber, [(195, false, 2, sX5_componentOf), (171, true, 1, sX5_flag)], fdX5, [], 0)
theorem eokX5_componentNumber {g : Gm} (hg : GmOK g) : EnvOK g 3 RX5 cX5_componentNumber (some .int) eX5_componentNumber := ⟨okX5_componentNumber, fun _ _ _ _ h => as2_all (P := fun i v => CallOK g 3 RX5 i v.1 v.2.1 v.2.2) (l := eX5_componentNumber.2.1) ⟨callV_ok (t := 5) hg (mX5_componentOf hg) kX5_componentOf mlX5_195 qX5_componentOf.1 qX5_componentOf.2 ⟨by decide, by decide⟩ ⟨_, _, rfl⟩ shX5_componentOf, callS_ok hg (mX5_flag hg) kX5_flag mlX5_171 qX5_flag ⟨by decide, by decide⟩, trivial⟩ h, fdX5_ok, (fun _ _ h => by cases h), rfl⟩
theorem rX5_componentNumber (av : List AV) (f : FF) (a : AA) (post : PT) (h : sX5_componentNumber av f a post) (X : XT) (hX : Clo eX5_componentNumber post X) : X 0 (padL 5 (ent av)) [] f a := by
  unfold sX5_componentNumber at h
  split at h
  · obtain ⟨P, i, hR, hW, eo, rfl, hi, h⟩ := h
    have h3 := cpM_lt P i i i (by omega) hi
    obtain ⟨m, em⟩ : ∃ m, m = cpM P i i i := ⟨_, rfl⟩
    rw [← em] at h h3
    refine hX [11] 40 _ _ _ _ _ ?_
    refine ⟨P, i, hR, hW, eo, rfl, hi, ?_⟩
    rw [← em]
    unfold cbM at h
    refine forUp (n := m) (Pr := fun k => X 11 [some (.inr (.inr (5, 0, 0))), some (.inl (nI i)), some (.inl (nI m)), some (.inl (nI (cnt (fun j => decide (cpM P j j j = j)) k))), some (.inl (nI k))] [] f a) ?_ ?_ 0 (Nat.zero_le _)
    · intro k hk ih
      rw [cnt_s, ← nI_1] at ih
      have hk3 := cpM_lt P k k k (by omega) (by omega)
      have es : nI (cpM P k k k) = nI k ↔ cpM P k k k = k := nI_eq (by omega) (by omega)
      refine hX [11] 60 _ _ _ _ _ ?_
      refine ⟨fun q => absurd ((i_le rfl rfl (by omega) (by omega)).mp q) (by omega), fun _ => ?_⟩
      refine ⟨P, k, hR, hW, eo, rfl, by omega, ⟨fun q => ?_, fun q => ?_⟩⟩
      · rw [decide_eq_false (fun z => q (es.mpr z))] at ih
        exact ih
      · rw [decide_eq_true (es.mp q)] at ih
        exact ih
    · refine hX [] 40 _ _ _ _ _ ?_
      exact ⟨fun _ => h, fun q => absurd (Int32.le_refl (nI m)) q⟩
  · exact h.elim
theorem shX5_componentNumber : ∀ As f a Q, sX5_componentNumber As f a Q → ∃ i r, As = .inr (.inr (5, i, 0)) :: r := by
  intro As f a Q h
  unfold sX5_componentNumber at h
  split at h
  · exact ⟨_, _, rfl⟩
  · exact h.elim
theorem mX5_componentNumber {g : Gm} (hg : GmOK g) : MetC g yX5_componentNumber cX5_componentNumber 5 (some .int) 3 sX5_componentNumber := by
  refine MetC_of hg eX5_componentNumber (eokX5_componentNumber hg) (by decide +kernel) (fun av f a post h => ?_) rX5_componentNumber
  unfold sX5_componentNumber at h
  split at h
  · exact Nat.le_of_ble_eq_true rfl
  · exact h.elim
def sX5_components : SP := fun As f a Q => match As with
  | [.inr (.inr (5, 0, 0))] => ∃ P, RM (a 5 0 0) P ∧ WF P ∧ f 5 0 20 = -4 ∧ Q (some (.inl (nI (cbM P P.1.length)))) f a
  | _ => False
def eX5_components : En := (tX5_components, [(195, false, 2, sX5_componentOf), (171, true, 1, sX5_flag)], fdX5, [], 0)
theorem eokX5_components {g : Gm} (hg : GmOK g) : EnvOK g 3 RX5 cX5_components (some .int) eX5_components := ⟨okX5_components, fun _ _ _ _ h => as2_all (P := fun i v => CallOK g 3 RX5 i v.1 v.2.1 v.2.2) (l := eX5_components.2.1) ⟨callV_ok (t := 5) hg (mX5_componentOf hg) kX5_componentOf mlX5_195 qX5_componentOf.1 qX5_componentOf.2 ⟨by decide, by decide⟩ ⟨_, _, rfl⟩ shX5_componentOf, callS_ok hg (mX5_flag hg) kX5_flag mlX5_171 qX5_flag ⟨by decide, by decide⟩, trivial⟩ h, fdX5_ok, (fun _ _ h => by cases h), rfl⟩
theorem rX5_components (av : List AV) (f : FF) (a : AA) (post : PT) (h : sX5_components av f a post) (X : XT) (hX : Clo eX5_components post X) : X 0 (padL 3 (ent av)) [] f a := by
  unfold sX5_components at h
  split at h
  · obtain ⟨P, hR, hW, eo, h⟩ := h
    have n3 := hW.1
    unfold cbM at h
    refine hX [4] 40 _ _ _ _ _ ?_
    refine forUp (n := P.1.length) (Pr := fun k => X 4 [some (.inr (.inr (5, 0, 0))), some (.inl (nI (cnt (fun j => decide (cpM P j j j = j)) k))), some (.inl (nI k))] [] f a) ?_ ?_ 0 (Nat.zero_le _)
    · intro k hk ih
      rw [cnt_s, ← nI_1] at ih
      have hk3 := cpM_lt P k k k (by omega) (by omega)
      have es : nI (cpM P k k k) = nI k ↔ cpM P k k k = k := nI_eq (by omega) (by omega)
      refine hX [4] 60 _ _ _ _ _ ?_
      refine ⟨inA 101 (n := 3) rfl rfl (by decide) (by decide), ⟨fun q => absurd ((i_le hR.1 rfl (by omega) (by omega)).mp q) (by omega), fun _ => ?_⟩⟩
      refine ⟨P, k, hR, hW, eo, rfl, by omega, ⟨fun q => ?_, fun q => ?_⟩⟩
      · rw [decide_eq_false (fun z => q (es.mpr z))] at ih
        exact ih
      · rw [decide_eq_true (es.mp q)] at ih
        exact ih
    · refine hX [] 40 _ _ _ _ _ ?_
      exact ⟨inA 101 (n := 3) rfl rfl (by decide) (by decide), ⟨fun _ => h, fun q => absurd ((i_le hR.1 rfl (by omega) (by omega)).mpr (Nat.le_refl _)) q⟩⟩
  · exact h.elim
theorem shX5_components : ∀ As f a Q, sX5_components As f a Q → ∃ i r, As = .inr (.inr (5, i, 0)) :: r := by
  intro As f a Q h
  unfold sX5_components at h
  split at h
  · exact ⟨_, _, rfl⟩
  · exact h.elim
theorem mX5_components {g : Gm} (hg : GmOK g) : MetC g yX5_components cX5_components 3 (some .int) 3 sX5_components := by
  refine MetC_of hg eX5_components (eokX5_components hg) (by decide +kernel) (fun av f a post h => ?_) rX5_components
  unfold sX5_components at h
  split at h
  · exact Nat.le_of_ble_eq_true rfl
  · exact h.elim
