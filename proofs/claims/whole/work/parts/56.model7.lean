/-! which functions the reference reaches -/
def rc1 (P : Pg) (i : Nat) : Nat → Nat
  | 0 => 0
  | c + 1 => rc1 P i c ||| (if fr P c = i then 2 ^ to P c else 0)
def rcP (P : Pg) (s : Nat) : Nat → Nat
  | 0 => s
  | c + 1 => rcP P s c ||| (if (rcP P s c).testBit (fr P c) then 2 ^ to P c else 0)
def rcQ (P : Pg) (i : Nat) : Nat → Nat
  | 0 => rc1 P i P.2.length
  | k + 1 => rcP P (rcQ P i k) P.2.length
def rcN (P : Pg) (i : Nat) : Nat := rcQ P i 3
theorem or8 {a b : Nat} (ha : a < 8) (hb : b < 8) : a ||| b < 8 := Nat.or_lt_two_pow (n := 3) ha hb
theorem p8 {t : Nat} (ht : t < 3) : 2 ^ t < 8 := by
  rcases (show t = 0 ∨ t = 1 ∨ t = 2 by omega) with rfl | rfl | rfl <;> decide
theorem rc1_lt {P : Pg} (hW : WF P) (i : Nat) : ∀ c, c ≤ P.2.length → rc1 P i c < 8
  | 0, _ => by show 0 < 8; decide
  | c + 1, hc => by
    have := ((okK_P hW).2 c (by omega)).2.1
    unfold rc1
    refine or8 (rc1_lt hW i c (by omega)) ?_
    split
    · exact p8 this
    · decide
theorem rcP_lt {P : Pg} (hW : WF P) {s : Nat} (hs : s < 8) : ∀ c, c ≤ P.2.length → rcP P s c < 8
  | 0, _ => hs
  | c + 1, hc => by
    have := ((okK_P hW).2 c (by omega)).2.1
    unfold rcP
    refine or8 (rcP_lt hW hs c (by omega)) ?_
    split
    · exact p8 this
    · decide
theorem rcQ_lt {P : Pg} (hW : WF P) (i : Nat) : ∀ k, rcQ P i k < 8
  | 0 => rc1_lt hW i _ (Nat.le_refl _)
  | k + 1 => rcP_lt hW (rcQ_lt hW i k) _ (Nat.le_refl _)
theorem sh1 : ∀ s, s < 8 → ∀ i, i < 3 → ((nI s >>> (nI i &&& 31)) &&& 1 = 1 ↔ s.testBit i = true) := by decide +kernel
def sX5_reachOf : SP := fun As f a Q => match As with
  | [.inr (.inr (5, 0, 0)), .inl x] => ∃ P i, RM (a 5 0 0) P ∧ WF P ∧ f 5 0 20 = -4 ∧ x = nI i ∧ i < 3 ∧ Q (some (.inl (nI (rcN P i)))) f a
  | _ => False
def eX5_reachOf : En := (tX5_reachOf, [(139, false, 3, sX5_of)], fdX5, [], 0)
theorem eokX5_reachOf {g : Gm} (hg : GmOK g) : EnvOK g 1 RX5 cX5_reachOf (some .int) eX5_reachOf := ⟨okX5_reachOf, fun _ _ _ _ h => as2_all (P := fun i v => CallOK g 1 RX5 i v.1 v.2.1 v.2.2) (l := eX5_reachOf.2.1) ⟨callV_ok (t := 5) hg (mX5_of hg) kX5_of mlX5_139 qX5_of.1 qX5_of.2 ⟨by decide, by decide⟩ ⟨_, _, rfl⟩ shX5_of, trivial⟩ h, fdX5_ok, (fun _ _ h => by cases h), rfl⟩
theorem rX5_reachOf (av : List AV) (f : FF) (a : AA) (post : PT) (h : sX5_reachOf av f a post) (X : XT) (hX : Clo eX5_reachOf post X) : X 0 (padL 5 (ent av)) [] f a := by
  unfold sX5_reachOf at h
  split at h
  · obtain ⟨P, i, hR, hW, eo, rfl, hi, h⟩ := h
    have n12 := hW.2.1
    have hK := okK_P hW
    have no : ∀ c, c < 12 → ¬ nI c = f 5 0 20 := fun c hc z => by
      rw [eo] at z
      exact absurd ((fM_none (o := some c) (fun g hg => by cases hg; omega)).mp z) (by intro y; cases y)
    have pass : ∀ k s, s < 8 → (∀ z, X 122 [some (.inr (.inr (5, 0, 0))), some (.inl (nI i)), some (.inl (nI (rcP P s P.2.length))), some (.inl (nI k)), z] [] f a) → ∀ c, c ≤ P.2.length → X 64 [some (.inr (.inr (5, 0, 0))), some (.inl (nI i)), some (.inl (nI (rcP P s c))), some (.inl (nI k)), some (.inl (nI c))] [] f a := by
      intro k s hs K
      refine forUp (Pr := fun c => X 64 [some (.inr (.inr (5, 0, 0))), some (.inl (nI i)), some (.inl (nI (rcP P s c))), some (.inl (nI k)), some (.inl (nI c))] [] f a) ?_ ?_
      · intro c hc ih
        obtain ⟨r0, r1, -⟩ := hR.2.2.2 c hc
        have kf_ : fr P c < 3 := (hK.2 c hc).1
        have kt : to P c < 3 := (hK.2 c hc).2.1
        have h8 := rcP_lt hW hs c (by omega)
        rw [← nI_1, show rcP P s (c + 1) = rcP P s c ||| (if (rcP P s c).testBit (fr P c) then 2 ^ to P c else 0) from rfl, ← fa_or] at ih
        refine hX [64] 90 _ _ _ _ _ ?_
        refine ⟨inA 101 (n := 100) rfl rfl (by decide) (by decide), ⟨fun q => absurd ((i_le hR.2.1 rfl (by omega) (by omega)).mp q) (by omega), fun _ => ?_⟩⟩
        refine ⟨fun q => absurd q (no c (by omega)), fun _ => ?_⟩
        have es : (nI (rcP P s c) >>> (a 5 0 0 (4 + 8 * c + 0) &&& 31)) &&& 1 = 1 ↔ (rcP P s c).testBit (fr P c) = true := by
          rw [show a 5 0 0 (4 + 8 * c + 0) = nI (fr P c) from r0]
          exact sh1 _ h8 _ kf_
        refine ⟨c, 0, rfl, rfl, by omega, ⟨fun q => ?_, fun q => ?_⟩⟩
        · rw [if_neg (fun z => q (es.mpr z))] at ih
          exact ih
        · rw [if_pos (es.mp q), ← shl_t _ (by omega)] at ih
          refine ⟨c, 1, rfl, rfl, by omega, ?_⟩
          dsimp only
          rw [r1]
          exact ih
      · refine hX [122] 40 _ _ _ _ _ ?_
        exact ⟨inA 101 (n := 100) rfl rfl (by decide) (by decide), ⟨fun _ => K _, fun q => absurd ((i_le hR.2.1 rfl (by omega) (by omega)).mpr (Nat.le_refl _)) q⟩⟩
    have outer : ∀ k, k ≤ 3 → ∀ z, X 56 [some (.inr (.inr (5, 0, 0))), some (.inl (nI i)), some (.inl (nI (rcQ P i k))), some (.inl (nI k)), z] [] f a := by
      refine forUp (Pr := fun k => ∀ z, X 56 [some (.inr (.inr (5, 0, 0))), some (.inl (nI i)), some (.inl (nI (rcQ P i k))), some (.inl (nI k)), z] [] f a) ?_ ?_
      · intro k hk ih z
        refine hX [64] 40 _ _ _ _ _ ?_
        refine ⟨fun q => absurd ((i_le (show (3 : Int32) = nI 3 from rfl) rfl (by decide) (by omega)).mp q) (by omega), fun _ => ?_⟩
        refine pass k (rcQ P i k) (rcQ_lt hW i k) (fun z => ?_) 0 (Nat.zero_le _)
        refine hX [56] 20 _ _ _ _ _ ?_
        have ih := ih z
        rw [← nI_1] at ih
        exact ih
      · intro z
        refine hX [] 40 _ _ _ _ _ ?_
        exact ⟨fun _ => h, fun q => absurd (by decide) q⟩
    refine hX [4] 20 _ _ _ _ _ ?_
    refine forUp (n := P.2.length) (Pr := fun c => X 4 [some (.inr (.inr (5, 0, 0))), some (.inl (nI i)), some (.inl (nI (rc1 P i c))), some (.inl (nI c)), none] [] f a) ?_ ?_ 0 (Nat.zero_le _)
    · intro c hc ih
      obtain ⟨r0, r1, -⟩ := hR.2.2.2 c hc
      have kf_ : fr P c < 3 := (hK.2 c hc).1
      have kt : to P c < 3 := (hK.2 c hc).2.1
      rw [← nI_1, show rc1 P i (c + 1) = rc1 P i c ||| (if fr P c = i then 2 ^ to P c else 0) from rfl, ← fa_or] at ih
      have es : a 5 0 0 (4 + 8 * c + 0) = nI i ↔ fr P c = i := i_eq r0 rfl (by omega) (by omega)
      refine hX [4] 90 _ _ _ _ _ ?_
      refine ⟨inA 101 (n := 100) rfl rfl (by decide) (by decide), ⟨fun q => absurd ((i_le hR.2.1 rfl (by omega) (by omega)).mp q) (by omega), fun _ => ?_⟩⟩
      refine ⟨fun q => absurd q (no c (by omega)), fun _ => ?_⟩
      refine ⟨c, 0, rfl, rfl, by omega, ⟨fun q => ?_, fun q => ?_⟩⟩
      · rw [if_neg (fun z => q (es.mpr z))] at ih
        exact ih
      · rw [if_pos (es.mp q), ← shl_t _ (by omega)] at ih
        refine ⟨c, 1, rfl, rfl, by omega, ?_⟩
        dsimp only
        rw [r1]
        exact ih
    · refine hX [56] 40 _ _ _ _ _ ?_
      exact ⟨inA 101 (n := 100) rfl rfl (by decide) (by decide), ⟨fun _ => outer 0 (by decide) none, fun q => absurd ((i_le hR.2.1 rfl (by omega) (by omega)).mpr (Nat.le_refl _)) q⟩⟩
  · exact h.elim
theorem shX5_reachOf : ∀ As f a Q, sX5_reachOf As f a Q → ∃ i r, As = .inr (.inr (5, i, 0)) :: r := by
  intro As f a Q h
  unfold sX5_reachOf at h
  split at h
  · exact ⟨_, _, rfl⟩
  · exact h.elim
theorem mX5_reachOf {g : Gm} (hg : GmOK g) : MetC g yX5_reachOf cX5_reachOf 5 (some .int) 1 sX5_reachOf := by
  refine MetC_of hg eX5_reachOf (eokX5_reachOf hg) (by decide +kernel) (fun av f a post h => ?_) rX5_reachOf
  unfold sX5_reachOf at h
  split at h
  · exact Nat.le_of_ble_eq_true rfl
  · exact h.elim
