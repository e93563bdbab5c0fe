/-! the mathematical state of both systems, and how the system's object holds it -/
abbrev Shp : Type := Option (Nat × Nat × (Nat → Int32))
abbrev Ab : Type := Pg × List Nat × Nat × (Nat → Option Pg) × (Nat → Shp) × Nat
abbrev aP (A : Ab) : Pg := A.1
abbrev aT (A : Ab) : List Nat := A.2.1
abbrev aFt (A : Ab) : Nat := A.2.2.1
abbrev aI (A : Ab) : Nat → Option Pg := A.2.2.2.1
abbrev aS (A : Ab) : Nat → Shp := A.2.2.2.2.1
abbrev aTn (A : Ab) : Nat := A.2.2.2.2.2
def OKA (A : Ab) : Prop := WF (aP A) ∧ ((aT A).length ≤ 160 ∧ ∀ i, i < (aT A).length → (aT A).getD i 0 < 128) ∧ aFt A < 10 ∧ (∀ k, k < 2 → ∀ P, aI A k = some P → WF P) ∧ (∀ k, k < 4 → ∀ l n cs, aS A k = some (l, n, cs) → l < 3 ∧ n ≤ 40) ∧ aTn A < 10
def shC (u : Nat → Int32) (w : Nat → Nat → Int32) (s : Shp) : Prop := match s with
  | none => u 1 = -1
  | some (l, n, cs) => u 1 = nI l ∧ u 2 = nI n ∧ ∀ i, i < 40 → w 0 i = cs i
def tlC (u : Nat → Int32) (w : Nat → Nat → Int32) (T : List Nat) (ft : Nat) : Prop := u 1 = nI T.length ∧ (∀ i, i < T.length → w 0 i = nI (T.getD i 0)) ∧ u 2 = nI ft
def imC (f : FF) (a : AA) (I : Nat → Option Pg) : Prop := ∀ k, k < 2 → a 4 0 5 k = b2i (I k).isSome ∧ ∀ P, I k = some P → RC (f 1 (2 + k)) (a 1 (2 + k)) P
def stC (f : FF) (a : AA) (P : Pg) : Prop := f 4 0 7 = 1 ∨ (f 4 0 7 = 0 ∧ GC (f 0 0) (a 0 0) P)
def RepC (f : FF) (a : AA) (A : Ab) : Prop := RC (f 1 0) (a 1 0) (aP A) ∧ tlC (f 3 0) (a 3 0) (aT A) (aFt A) ∧ imC f a (aI A) ∧ (∀ k, k < 4 → shC (f 2 k) (a 2 k) (aS A k)) ∧ f 4 0 8 = nI (aTn A) ∧ stC f a (aP A) ∧ ∀ p, p < 4 → AB (a 1 p)
/-- the reference's object is as it was -/
def S5 (f : FF) (a : AA) (f' : FF) (a' : AA) : Prop := f' 5 0 = f 5 0 ∧ a' 5 0 = a 5 0
theorem S5.rf (f : FF) (a : AA) : S5 f a f a := ⟨rfl, rfl⟩
theorem S5.tr {f f' f'' : FF} {a a' a'' : AA} (h : S5 f a f' a') (h' : S5 f' a' f'' a'') : S5 f a f'' a'' := ⟨h'.1.trans h.1, h'.2.trans h.2⟩
theorem Fr.s5 {f f' : FF} {a a' : AA} {t i : Nat} (h : Fr f a f' a' t i) (ht : t ≠ 5) : S5 f a f' a' := h 5 0 (fun q => ht q.1.symm)
/-- an answer by a number -/
def selI (x : Int32) (l : List Int32) (d : Int32) : Int32 := if 0 ≤ x.toInt ∧ x.toInt < (l.length : Int) then l.getD x.toInt.toNat d else d
theorem selI_in {x : Int32} {l : List Int32} {d : Int32} (k : Nat) (h : x.toInt = (k : Int)) (hk : k < l.length) : selI x l d = l.getD k d := by
  unfold selI
  rw [h, if_pos (by omega)]
  rfl
theorem selI_out {x : Int32} {l : List Int32} {d : Int32} (h : x.toInt < 0 ∨ (l.length : Int) ≤ x.toInt) : selI x l d = d := by
  unfold selI
  rw [if_neg (by omega)]
/-! fresh, trialEnds -/
def sX4_fresh : SP := fun As f a Q => match As with
  | [.inr (.inr (4, 0, 0))] => ∃ A, RepC f a A ∧ OKA A ∧ ∀ f' a', RepC f' a' A → GC (f' 0 0) (a' 0 0) (aP A) → S5 f a f' a' → Q (some (.inr (.inr (0, 0, 0)))) f' a'
  | _ => False
def eX4_fresh : En := (tX4_fresh, [(282, false, 3, sX0_close)], fdX4, [], 3)
theorem eokX4_fresh {g : Gm} (hg : GmOK g) : EnvOK g 5 RX4 cX4_fresh (some (.object "FallingCalls$Graphs")) eX4_fresh := ⟨okX4_fresh, fun _ _ _ _ h => as2_all (P := fun i v => CallOK g 5 RX4 i v.1 v.2.1 v.2.2) (l := eX4_fresh.2.1) ⟨callV_ok (t := 0) hg (mX0_close hg) kX0_close mlX4_282 qX0_close.1 qX0_close.2 ⟨by decide, by decide⟩ ⟨_, _, rfl⟩ shX0_close, trivial⟩ h, fdX4_ok, (fun _ _ h => by cases h), ⟨_, rfl⟩⟩
theorem RepC.gc {f f' : FF} {a a' : AA} {A : Ab} (h : RepC f a A) (hF : Fr f a f' a' 0 0) (h0 : f 4 0 7 = 0 ∨ True) (hG : GC (f' 0 0) (a' 0 0) (aP A)) : RepC (upf f' 4 0 7 0) a' A := by
  have e : ∀ t i, t ≠ 0 → t ≠ 4 → upf f' 4 0 7 0 t i = f t i ∧ a' t i = a t i := fun t i h0 h4 => ⟨by rw [upf_o _ _ (fun q => h4 q.1)]; exact (hF t i (fun q => h0 q.1)).1, (hF t i (fun q => h0 q.1)).2⟩
  refine ⟨?_, ?_, ?_, ?_, ?_, ?_, fun p hp => by rw [(e 1 p (by decide) (by decide)).2]; exact h.2.2.2.2.2.2 p hp⟩
  · rw [(e 1 0 (by decide) (by decide)).1, (e 1 0 (by decide) (by decide)).2]; exact h.1
  · rw [(e 3 0 (by decide) (by decide)).1, (e 3 0 (by decide) (by decide)).2]; exact h.2.1
  · intro k hk
    rw [(hF 4 0 (by decide)).2, (e 1 (2 + k) (by decide) (by decide)).1, (e 1 (2 + k) (by decide) (by decide)).2]
    exact h.2.2.1 k hk
  · intro k hk
    rw [(e 2 k (by decide) (by decide)).1, (e 2 k (by decide) (by decide)).2]
    exact h.2.2.2.1 k hk
  · rw [upf_s, if_neg (by decide), (hF 4 0 (by decide)).1]; exact h.2.2.2.2.1
  · refine Or.inr ⟨by rw [upf_s, if_pos rfl], ?_⟩
    rw [upf_o _ _ (by decide)]
    exact hG
theorem rX4_fresh (av : List AV) (f : FF) (a : AA) (post : PT) (h : sX4_fresh av f a post) (X : XT) (hX : Clo eX4_fresh post X) : X 0 (padL 1 (ent av)) [] f a := by
  unfold sX4_fresh at h
  split at h
  · obtain ⟨A, hA, hO, h⟩ := h
    refine hX [] 90 _ _ _ _ _ ?_
    refine ⟨fun q => ?_, fun q => ?_⟩
    · refine h f a hA ?_ (S5.rf f a)
      rcases hA.2.2.2.2.2.1 with z | z
      · rw [q] at z
        exact absurd z (by decide)
      · exact z.2
    · refine ⟨aP A, hA.1, hO.1, Or.inl rfl, fun f1 a1 hF hG _ => ?_⟩
      have hG := hG rfl
      refine ⟨Or.inl rfl, ?_⟩
      have e7 : upf f1 4 0 7 0 0 0 = f1 0 0 := upf_o _ _ (by decide)
      refine h _ _ (hA.gc hF (Or.inr trivial) hG) (by rw [e7]; exact hG) ?_
      have := hF.s5 (by decide)
      exact ⟨by rw [upf_o _ _ (by decide)]; exact this.1, this.2⟩
  · exact h.elim
theorem shX4_fresh : ∀ As f a Q, sX4_fresh As f a Q → ∃ i r, As = .inr (.inr (4, i, 0)) :: r := by
  intro As f a Q h
  unfold sX4_fresh at h
  split at h
  · exact ⟨_, _, rfl⟩
  · exact h.elim
theorem mX4_fresh {g : Gm} (hg : GmOK g) : MetC g yX4_fresh cX4_fresh 1 (some (.object "FallingCalls$Graphs")) 5 sX4_fresh := by
  refine MetC_of hg eX4_fresh (eokX4_fresh hg) (by decide +kernel) (fun av f a post h => ?_) rX4_fresh
  unfold sX4_fresh at h
  split at h
  · exact Nat.le_of_ble_eq_true rfl
  · exact h.elim
def sX4_trialEnds : SP := fun As f a Q => match As with
  | [.inr (.inr (4, 0, 0))] => ∃ P, RC (f 1 1) (a 1 1) P ∧ WF P ∧ ∀ f' a', (∀ t i, t ≠ 0 → t ≠ 4 → f' t i = f t i ∧ a' t i = a t i) → (∀ k, k ≠ 7 → f' 4 0 k = f 4 0 k) → a' 4 0 = a 4 0 → f' 4 0 7 = 1 → Q (some (.inl (b2i (decide (loopC (clo P) = 0))))) f' a'
  | _ => False
def eX4_trialEnds : En := (tX4_trialEnds, [(282, false, 3, sX0_close)], fdX4, [], 1)
theorem eokX4_trialEnds {g : Gm} (hg : GmOK g) : EnvOK g 5 RX4 cX4_trialEnds (some .boolean) eX4_trialEnds := ⟨okX4_trialEnds, fun _ _ _ _ h => as2_all (P := fun i v => CallOK g 5 RX4 i v.1 v.2.1 v.2.2) (l := eX4_trialEnds.2.1) ⟨callV_ok (t := 0) hg (mX0_close hg) kX0_close mlX4_282 qX0_close.1 qX0_close.2 ⟨by decide, by decide⟩ ⟨_, _, rfl⟩ shX0_close, trivial⟩ h, fdX4_ok, (fun _ _ h => by cases h), rfl⟩
theorem rX4_trialEnds (av : List AV) (f : FF) (a : AA) (post : PT) (h : sX4_trialEnds av f a post) (X : XT) (hX : Clo eX4_trialEnds post X) : X 0 (padL 1 (ent av)) [] f a := by
  unfold sX4_trialEnds at h
  split at h
  · obtain ⟨P, hR, hW, h⟩ := h
    refine hX [] 90 _ _ _ _ _ ?_
    refine ⟨Or.inr rfl, P, by rw [upf_o _ _ (by decide)]; exact hR, hW, Or.inr rfl, fun f1 a1 hF _ hG => ?_⟩
    have hG := hG rfl
    have h4 := hF 4 0 (by decide)
    have K := h f1 a1 (fun t i h0 h4 => by
      have := hF t i (fun q => h0 q.1)
      rw [upf_o _ _ (fun q => h4 q.1)] at this
      exact this) (fun k hk => by rw [h4.1, upf_s, if_neg hk]) h4.2 (by rw [h4.1, upf_s, if_pos rfl])
    refine ⟨fun q => ?_, fun q => ?_⟩
    · exact pF K (decide_eq_false (fun z => q (hG.mpr z)))
    · exact pT K (decide_eq_true (hG.mp q))
  · exact h.elim
theorem shX4_trialEnds : ∀ As f a Q, sX4_trialEnds As f a Q → ∃ i r, As = .inr (.inr (4, i, 0)) :: r := by
  intro As f a Q h
  unfold sX4_trialEnds at h
  split at h
  · exact ⟨_, _, rfl⟩
  · exact h.elim
theorem mX4_trialEnds {g : Gm} (hg : GmOK g) : MetC g yX4_trialEnds cX4_trialEnds 1 (some .boolean) 5 sX4_trialEnds := by
  refine MetC_of hg eX4_trialEnds (eokX4_trialEnds hg) (by decide +kernel) (fun av f a post h => ?_) rX4_trialEnds
  unfold sX4_trialEnds at h
  split at h
  · exact Nat.le_of_ble_eq_true rfl
  · exact h.elim
