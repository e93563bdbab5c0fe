/-! the text's tokens -/
abbrev Lx : Type := Nat × Nat × Nat × Nat
def LX (u : Nat → Int32) (σ : Lx) : Prop := u 2 = nI σ.1 ∧ u 3 = nI σ.2.1 ∧ u 4 = nI σ.2.2.1 ∧ u 5 = nI σ.2.2.2
def OKT (T : List Nat) : Prop := T.length ≤ 160 ∧ ∀ i, i < T.length → T.getD i 0 < 128
def TP (u : Nat → Int32) (w : Nat → Nat → Int32) (T : List Nat) : Prop := u 1 = nI T.length ∧ ∀ i, i < T.length → w 0 i = nI (T.getD i 0)
def tkN (c : Nat) : Nat := if 97 ≤ c ∧ c ≤ 122 then 1 else if 48 ≤ c ∧ c ≤ 57 then 2 else if c = 45 ∨ c = 47 ∨ c = 43 ∨ c = 38 ∨ c = 59 then 3 else 0
theorem tkN_lt (c : Nat) : tkN c < 4 := by
  unfold tkN
  split
  · decide
  · split
    · decide
    · split <;> decide
/-- the first place at which p is false -/
def skU (p : Nat → Bool) : Nat → Nat → Nat
  | 0, i => i
  | d + 1, i => if p i then skU p d (i + 1) else i
theorem skU_le (p : Nat → Bool) : ∀ d i, i ≤ skU p d i ∧ skU p d i ≤ i + d
  | 0, i => ⟨Nat.le_refl i, Nat.le_refl i⟩
  | d + 1, i => by
    unfold skU
    have := skU_le p d (i + 1)
    split <;> omega
theorem skU_all (p : Nat → Bool) : ∀ d i j, i ≤ j → j < skU p d i → p j = true
  | 0, i, j, h1, h2 => absurd h1 (Nat.not_le.mpr h2)
  | d + 1, i, j, h1, h2 => by
    unfold skU at h2
    by_cases hp : p i = true
    · rw [if_pos hp] at h2
      by_cases h : j = i
      · rw [h]; exact hp
      · exact skU_all p d (i + 1) j (by omega) h2
    · rw [if_neg hp] at h2
      omega
def blB (T : List Nat) (i : Nat) : Bool := decide (T.getD i 0 = 32)
def tkB (T : List Nat) (k i : Nat) : Bool := decide (tkN (T.getD i 0) = k)
def stS (T : List Nat) (e : Nat) : Nat := skU (blB T) (T.length - e) e
def stE (T : List Nat) (s : Nat) : Nat := if tkN (T.getD s 0) = 3 then s + 1 else skU (tkB T (tkN (T.getD s 0))) (T.length - (s + 1)) (s + 1)
def stepN (T : List Nat) (σ : Lx) : Lx := if σ.1 ≠ 0 then σ else
  if T.length ≤ stS T σ.2.2.1 then (0, stS T σ.2.2.1, stS T σ.2.2.1, 0) else
  if tkN (T.getD (stS T σ.2.2.1) 0) = 0 ∨ (tkN (T.getD (stS T σ.2.2.1) 0) = 2 ∧ 2 < stE T (stS T σ.2.2.1) - stS T σ.2.2.1) then (1, stS T σ.2.2.1, stE T (stS T σ.2.2.1), 0)
  else (0, stS T σ.2.2.1, stE T (stS T σ.2.2.1), tkN (T.getD (stS T σ.2.2.1) 0))
def refN (x : Nat) (σ : Lx) : Lx := (if σ.1 = 0 then x else σ.1, σ.2.1, σ.2.2.1, 0)
/-- what is known of a token -/
def LOK (T : List Nat) (σ : Lx) : Prop := σ.1 < 10 ∧ σ.2.1 ≤ σ.2.2.1 ∧ σ.2.2.1 ≤ T.length ∧ σ.2.2.2 < 4 ∧ (σ.2.2.2 ≠ 0 → σ.1 = 0 ∧ σ.2.1 < σ.2.2.1 ∧ ∀ i, σ.2.1 ≤ i → i < σ.2.2.1 → tkN (T.getD i 0) = σ.2.2.2) ∧ (σ.2.2.2 = 2 → σ.2.2.1 ≤ σ.2.1 + 2) ∧ (σ.2.2.2 = 3 → σ.2.2.1 = σ.2.1 + 1)
theorem LOK.ref {T : List Nat} {σ : Lx} (h : LOK T σ) {x : Nat} (hx : x < 10) : LOK T (refN x σ) := by
  unfold refN LOK
  dsimp only
  refine ⟨?_, h.2.1, h.2.2.1, by decide, fun z => absurd rfl z, fun z => absurd z (by decide), fun z => absurd z (by decide)⟩
  split
  · exact hx
  · exact h.1
theorem stS_le {T : List Nat} {e : Nat} (h : e ≤ T.length) : e ≤ stS T e ∧ stS T e ≤ T.length := by
  have := skU_le (blB T) (T.length - e) e
  unfold stS
  omega
theorem stE_le {T : List Nat} {s : Nat} (h : s < T.length) : s < stE T s ∧ stE T s ≤ T.length := by
  have := skU_le (tkB T (tkN (T.getD s 0))) (T.length - (s + 1)) (s + 1)
  unfold stE
  split <;> omega
theorem stE_all {T : List Nat} {s : Nat} : ∀ i, s ≤ i → i < stE T s → tkN (T.getD i 0) = tkN (T.getD s 0) := by
  intro i h1 h2
  by_cases hi : i = s
  · rw [hi]
  · unfold stE at h2
    split at h2
    · omega
    · exact of_decide_eq_true (skU_all _ _ _ i (by omega) h2)
theorem LOK.step {T : List Nat} {σ : Lx} (h : LOK T σ) : LOK T (stepN T σ) := by
  unfold stepN
  by_cases h0 : σ.1 ≠ 0
  · rw [if_pos h0]
    exact h
  · rw [if_neg h0]
    have hs := stS_le h.2.2.1
    by_cases h1 : T.length ≤ stS T σ.2.2.1
    · rw [if_pos h1]
      exact ⟨by show 0 < 10; decide, Nat.le_refl _, hs.2, by show 0 < 4; decide, fun z => absurd rfl z, fun z => absurd z (by show ¬ 0 = 2; decide), fun z => absurd z (by show ¬ 0 = 3; decide)⟩
    · rw [if_neg h1]
      have he := stE_le (Nat.lt_of_not_le h1)
      split
      · exact ⟨by show 1 < 10; decide, Nat.le_of_lt he.1, he.2, by show 0 < 4; decide, fun z => absurd rfl z, fun z => absurd z (by show ¬ 0 = 2; decide), fun z => absurd z (by show ¬ 0 = 3; decide)⟩
      · rename_i hn
        refine ⟨by show 0 < 10; decide, Nat.le_of_lt he.1, he.2, tkN_lt _, fun _ => ⟨rfl, he.1, stE_all⟩, fun z => ?_, fun z => ?_⟩
        · have z : tkN (T.getD (stS T σ.2.2.1) 0) = 2 := z
          have : ¬ 2 < stE T (stS T σ.2.2.1) - stS T σ.2.2.1 := fun y => hn (Or.inr ⟨z, y⟩)
          show stE T (stS T σ.2.2.1) ≤ stS T σ.2.2.1 + 2
          omega
        · have z : tkN (T.getD (stS T σ.2.2.1) 0) = 3 := z
          show stE T (stS T σ.2.2.1) = stS T σ.2.2.1 + 1
          unfold stE
          rw [if_pos z]
def LOK0 (T : List Nat) (σ : Lx) : Prop := σ.1 < 10 ∧ σ.2.2.1 ≤ T.length
theorem LOK.l0 {T : List Nat} {σ : Lx} (h : LOK T σ) : LOK0 T σ := ⟨h.1, h.2.2.1⟩
theorem LOK0.step {T : List Nat} {σ : Lx} (h : LOK0 T σ) (h0 : σ.1 = 0) : LOK T (stepN T σ) := by
  have := @LOK.step T (0, σ.2.2.1, σ.2.2.1, 0) ⟨by show 0 < 10; decide, Nat.le_refl _, h.2, by show 0 < 4; decide, fun z => absurd rfl z, fun z => absurd z (by show ¬ 0 = 2; decide), fun z => absurd z (by show ¬ 0 = 3; decide)⟩
  have e : stepN T (0, σ.2.2.1, σ.2.2.1, 0) = stepN T σ := by
    unfold stepN
    rw [h0]
    rfl
  rw [e] at this
  exact this
/-- only the token's fields changed -/
def F3 (f f' : FF) : Prop := ∀ t i k, ¬ (t = 3 ∧ i = 0 ∧ 2 ≤ k) → f' t i k = f t i k
theorem F3.rf (f : FF) : F3 f f := fun _ _ _ _ => rfl
theorem F3.tr {f f' f'' : FF} (h : F3 f f') (h' : F3 f' f'') : F3 f f'' := fun t i k q => (h' t i k q).trans (h t i k q)
theorem F3.up {f f' : FF} (h : F3 f f') (j : Nat) (hj : 2 ≤ j) (x : Int32) : F3 f (upf f' 3 0 j x) := fun t i k q => by
  rw [upf_ne (fun z => q ⟨z.1, z.2.1, by rw [z.2.2]; exact hj⟩)]
  exact h t i k q
theorem F3.tp {f f' : FF} (h : F3 f f') {w : Nat → Nat → Int32} {T : List Nat} (hT : TP (f 3 0) w T) : TP (f' 3 0) w T := ⟨by rw [h 3 0 1 (fun z => absurd z.2.2 (by decide))]; exact hT.1, hT.2⟩
theorem F3.o {f f' : FF} (h : F3 f f') {t i : Nat} (q : ¬ (t = 3 ∧ i = 0)) : f' t i = f t i := by
  funext k
  exact h t i k (fun z => q ⟨z.1, z.2.1⟩)
def sX3_tokenOf : SP := fun As f a Q => match As with
  | [.inl x] => ∃ c, x = nI c ∧ c < 128 ∧ Q (some (.inl (nI (tkN c)))) f a
  | _ => False
def eX3_tokenOf : En := (tX3_tokenOf, [], fdX3, [], 0)
theorem eokX3_tokenOf {g : Gm} (hg : GmOK g) : EnvOK g 0 RX3 cX3_tokenOf (some .int) eX3_tokenOf := ⟨okX3_tokenOf, (fun _ _ _ _ h => by cases h), fdX3_ok, (fun _ _ h => by cases h), rfl⟩
theorem rX3_tokenOf (av : List AV) (f : FF) (a : AA) (post : PT) (h : sX3_tokenOf av f a post) (X : XT) (hX : Clo eX3_tokenOf post X) : X 0 (padL 1 (ent av)) [] f a := by
  unfold sX3_tokenOf at h
  split at h
  · obtain ⟨c, rfl, hc, h⟩ := h
    have l : ∀ n, n < 128 → (nI c < nI n ↔ c < n) := fun n hn => nI_ltI (by omega) (by omega)
    have e : ∀ n, n < 128 → (nI c = nI n ↔ c = n) := fun n hn => nI_eq (by omega) (by omega)
    have g : ∀ n, n < 128 → (nI n < nI c ↔ n < c) := fun n hn => nI_ltI (by omega) (by omega)
    have k3 : (c = 45 ∨ c = 47 ∨ c = 43 ∨ c = 38 ∨ c = 59) → nI (tkN c) = 3 := fun z => by
      rcases z with rfl | rfl | rfl | rfl | rfl <;> decide
    refine hX [14, 28, 58, 62] 40 _ _ _ _ _ ?_
    have h58 : (c = 45 ∨ c = 47 ∨ c = 43 ∨ c = 38 ∨ c = 59) → X 58 [some (.inl (nI c))] [] f a := fun z => hX [] 20 _ _ _ _ _ (pI h (k3 z))
    have h28 : ¬ (97 ≤ c ∧ c ≤ 122) → ¬ (48 ≤ c ∧ c ≤ 57) → X 28 [some (.inl (nI c))] [] f a := fun z1 z2 => by
      refine hX [58, 62] 40 _ _ _ _ _ ?_
      refine ⟨fun q => h58 (Or.inl ((e 45 (by decide)).mp q)), fun q => ?_⟩
      refine ⟨fun q2 => h58 (Or.inr (Or.inl ((e 47 (by decide)).mp q2))), fun q2 => ?_⟩
      refine ⟨fun q3 => h58 (Or.inr (Or.inr (Or.inl ((e 43 (by decide)).mp q3)))), fun q3 => ?_⟩
      refine ⟨fun q4 => h58 (Or.inr (Or.inr (Or.inr (Or.inl ((e 38 (by decide)).mp q4))))), fun q4 => ?_⟩
      refine ⟨fun q5 => ?_, fun q5 => h58 (Or.inr (Or.inr (Or.inr (Or.inr ((e 59 (by decide)).mp q5)))))⟩
      refine hX [] 20 _ _ _ _ _ (pI h ?_)
      unfold tkN
      rw [if_neg z1, if_neg z2, if_neg]
      · rfl
      · rintro (z | z | z | z | z)
        · exact q ((e 45 (by decide)).mpr z)
        · exact q2 ((e 47 (by decide)).mpr z)
        · exact q3 ((e 43 (by decide)).mpr z)
        · exact q4 ((e 38 (by decide)).mpr z)
        · exact q5 ((e 59 (by decide)).mpr z)
    have h14 : ¬ (97 ≤ c ∧ c ≤ 122) → X 14 [some (.inl (nI c))] [] f a := fun z1 => by
      refine hX [28] 40 _ _ _ _ _ ?_
      refine ⟨fun q => ?_, fun q => ⟨fun q2 => ?_, fun q2 => ?_⟩⟩
      · have := (l 48 (by decide)).mp q
        exact h28 z1 (by omega)
      · have := (g 57 (by decide)).mp q2
        exact h28 z1 (by omega)
      · have q2 : ¬ 57 < c := fun z => q2 ((g 57 (by decide)).mpr z)
        have q : ¬ c < 48 := fun z => q ((l 48 (by decide)).mpr z)
        refine pI h ?_
        unfold tkN
        rw [if_neg z1, if_pos (by omega)]
        rfl
    refine ⟨fun q => ?_, fun q => ⟨fun q2 => ?_, fun q2 => ?_⟩⟩
    · have := (l 97 (by decide)).mp q
      exact h14 (by omega)
    · have := (g 122 (by decide)).mp q2
      exact h14 (by omega)
    · have q2 : ¬ 122 < c := fun z => q2 ((g 122 (by decide)).mpr z)
      have q : ¬ c < 97 := fun z => q ((l 97 (by decide)).mpr z)
      refine pI h ?_
      unfold tkN
      rw [if_pos (by omega)]
      rfl
  · exact h.elim
theorem mX3_tokenOf {g : Gm} (hg : GmOK g) : MetC g yX3_tokenOf cX3_tokenOf 1 (some .int) 0 sX3_tokenOf := by
  refine MetC_of hg eX3_tokenOf (eokX3_tokenOf hg) (by decide +kernel) (fun av f a post h => ?_) rX3_tokenOf
  unfold sX3_tokenOf at h
  split at h
  · exact Nat.le_of_ble_eq_true rfl
  · exact h.elim
def sX3_refuse : SP := fun As f a Q => match As with
  | [.inr (.inr (3, 0, 0)), .inl x] => ∃ n σ, x = nI n ∧ LX (f 3 0) σ ∧ σ.1 < 10 ∧ ∀ f', F3 f f' → LX (f' 3 0) (refN n σ) → Q none f' a
  | _ => False
def eX3_refuse : En := (tX3_refuse, [], fdX3, [], 2)
theorem eokX3_refuse {g : Gm} (hg : GmOK g) : EnvOK g 0 RX3 cX3_refuse none eX3_refuse := ⟨okX3_refuse, (fun _ _ _ _ h => by cases h), fdX3_ok, (fun _ _ h => by cases h), rfl⟩
theorem rX3_refuse (av : List AV) (f : FF) (a : AA) (post : PT) (h : sX3_refuse av f a post) (X : XT) (hX : Clo eX3_refuse post X) : X 0 (padL 2 (ent av)) [] f a := by
  unfold sX3_refuse at h
  split at h
  · obtain ⟨n, σ, rfl, ⟨l1, l2, l3, l4⟩, ho, h⟩ := h
    have hz : f 3 0 2 = 0 ↔ σ.1 = 0 := i_eq l1 (show (0 : Int32) = nI 0 from rfl) (by omega) (by decide)
    refine hX [12] 40 _ _ _ _ _ ?_
    refine ⟨fun q => ?_, fun q => ?_⟩
    · refine hX [] 20 _ _ _ _ _ ?_
      refine h _ ((F3.rf f).up 5 (by decide) _) ?_
      have q : ¬ σ.1 = 0 := fun z => q (hz.mpr z)
      unfold LX refN
      rw [if_neg q]
      exact ⟨l1, l2, l3, rfl⟩
    · refine hX [] 20 _ _ _ _ _ ?_
      refine h _ (((F3.rf f).up 2 (by decide) _).up 5 (by decide) _) ?_
      have q : σ.1 = 0 := hz.mp q
      unfold LX refN
      rw [if_pos q]
      exact ⟨rfl, l2, l3, rfl⟩
  · exact h.elim
theorem shX3_refuse : ∀ As f a Q, sX3_refuse As f a Q → ∃ i r, As = .inr (.inr (3, i, 0)) :: r := by
  intro As f a Q h
  unfold sX3_refuse at h
  split at h
  · exact ⟨_, _, rfl⟩
  · exact h.elim
theorem mX3_refuse {g : Gm} (hg : GmOK g) : MetC g yX3_refuse cX3_refuse 2 none 0 sX3_refuse := by
  refine MetC_of hg eX3_refuse (eokX3_refuse hg) (by decide +kernel) (fun av f a post h => ?_) rX3_refuse
  unfold sX3_refuse at h
  split at h
  · exact Nat.le_of_ble_eq_true rfl
  · exact h.elim
def sX3_step : SP := fun As f a Q => match As with
  | [.inr (.inr (3, 0, 0))] => ∃ T σ, TP (f 3 0) (a 3 0) T ∧ OKT T ∧ LX (f 3 0) σ ∧ LOK0 T σ ∧ ∀ f', F3 f f' → LX (f' 3 0) (stepN T σ) → Q none f' a
  | _ => False
def eX3_step : En := (tX3_step, [(118, true, 1, sX3_tokenOf), (43, false, 2, sX3_refuse)], fdX3, [], 2)
theorem eokX3_step {g : Gm} (hg : GmOK g) : EnvOK g 1 RX3 cX3_step none eX3_step := ⟨okX3_step, fun _ _ _ _ h => as2_all (P := fun i v => CallOK g 1 RX3 i v.1 v.2.1 v.2.2) (l := eX3_step.2.1) ⟨callS_ok hg (mX3_tokenOf hg) kX3_tokenOf mlX3_118 qX3_tokenOf ⟨by decide, by decide⟩, callV_ok (t := 3) hg (mX3_refuse hg) kX3_refuse mlX3_43 qX3_refuse.1 qX3_refuse.2 ⟨by decide, by decide⟩ ⟨_, _, rfl⟩ shX3_refuse, trivial⟩ h, fdX3_ok, (fun _ _ h => by cases h), rfl⟩
theorem rX3_step (av : List AV) (f : FF) (a : AA) (post : PT) (h : sX3_step av f a post) (X : XT) (hX : Clo eX3_step post X) : X 0 (padL 1 (ent av)) [] f a := by
  unfold sX3_step at h
  split at h
  · obtain ⟨T, σ, hT, hO, ⟨l1, l2, l3, l4⟩, hL, h⟩ := h
    have hz : f 3 0 2 = 0 ↔ σ.1 = 0 := i_eq l1 (show (0 : Int32) = nI 0 from rfl) (by have := hL.1; omega) (by decide)
    have hlen := hO.1
    refine hX [16] 40 _ _ _ _ _ ?_
    refine ⟨fun q => ?_, fun q => h f (F3.rf f) (by unfold stepN; rw [if_pos (fun z => q (hz.mpr z))]; exact ⟨l1, l2, l3, l4⟩)⟩
    have q0 := hz.mp q
    have el : ∀ f1, F3 f f1 → f1 3 0 1 = nI T.length := fun f1 hF => (hF.tp hT).1
    have es : stepN T σ = if T.length ≤ stS T σ.2.2.1 then (0, stS T σ.2.2.1, stS T σ.2.2.1, 0) else
      if tkN (T.getD (stS T σ.2.2.1) 0) = 0 ∨ (tkN (T.getD (stS T σ.2.2.1) 0) = 2 ∧ 2 < stE T (stS T σ.2.2.1) - stS T σ.2.2.1) then (1, stS T σ.2.2.1, stE T (stS T σ.2.2.1), 0)
      else (0, stS T σ.2.2.1, stE T (stS T σ.2.2.1), tkN (T.getD (stS T σ.2.2.1) 0)) := by
      unfold stepN
      rw [if_neg (fun z => z q0)]
    rw [es] at h
    have hs := stS_le hL.2
    obtain ⟨S, hS⟩ : ∃ S, S = stS T σ.2.2.1 := ⟨_, rfl⟩
    rw [← hS] at h hs
    obtain ⟨E, hE⟩ : ∃ E, E = stE T S := ⟨_, rfl⟩
    rw [← hE] at h
    obtain ⟨k, hk⟩ : ∃ k, k = tkN (T.getD S 0) := ⟨_, rfl⟩
    rw [← hk] at h
    have hk4 : k < 4 := by rw [hk]; exact tkN_lt _
    have h156 : ∀ f1, F3 f f1 → f1 3 0 2 = 0 → f1 3 0 3 = nI S → f1 3 0 4 = nI E → f1 3 0 5 = nI k → S < T.length → X 156 [some (.inr (.inr (3, 0, 0)))] [] f1 a := by
      intro f1 hF e2 e3 e4 e5 hlt
      rw [if_neg (by omega)] at h
      have hEl : S < E ∧ E ≤ T.length := by rw [hE]; exact stE_le hlt
      have h184 : (k = 0 ∨ (k = 2 ∧ 2 < E - S)) → X 184 [some (.inr (.inr (3, 0, 0)))] [] f1 a := fun z => by
        rw [if_pos z] at h
        refine hX [] 40 _ _ _ _ _ ?_
        refine ⟨1, (0, S, E, k), rfl, ⟨e2, e3, e4, e5⟩, Nat.le_of_ble_eq_true rfl, fun f2 hF2 hL2 => ?_⟩
        exact h f2 (hF.tr hF2) hL2
      have h189 : ¬ (k = 0 ∨ (k = 2 ∧ 2 < E - S)) → X 189 [some (.inr (.inr (3, 0, 0)))] [] f1 a := fun z => by
        rw [if_neg z] at h
        refine hX [] 40 _ _ _ _ _ ?_
        exact h f1 hF ⟨e2, e3, e4, e5⟩
      refine hX [184, 189] 40 _ _ _ _ _ ?_
      refine ⟨fun d => ?_, fun d => ⟨fun d2 => ?_, fun d2 => ⟨fun d3 => ?_, fun d3 => ?_⟩⟩⟩
      · exact h184 (Or.inl ((i_eq e5 (show (0 : Int32) = nI 0 from rfl) (by omega) (by decide)).mp d))
      · have d : ¬ k = 0 := fun z => d ((i_eq e5 (show (0 : Int32) = nI 0 from rfl) (by omega) (by decide)).mpr z)
        have d2 : ¬ k = 2 := fun z => d2 ((i_eq e5 (show (2 : Int32) = nI 2 from rfl) (by omega) (by decide)).mpr z)
        exact h189 (by omega)
      · have d2 : k = 2 := (i_eq e5 (show (2 : Int32) = nI 2 from rfl) (by omega) (by decide)).mp d2
        have d3 : f1 3 0 4 - f1 3 0 3 ≤ 2 := d3
        rw [e4, e3, pk_sub (by omega)] at d3
        have d3 := (nI_leI (b := 2) (by omega) (by decide)).mp d3
        exact h189 (by omega)
      · have d2 : k = 2 := (i_eq e5 (show (2 : Int32) = nI 2 from rfl) (by omega) (by decide)).mp d2
        have d3 : ¬ f1 3 0 4 - f1 3 0 3 ≤ 2 := d3
        rw [e4, e3, pk_sub (by omega)] at d3
        have d3 : ¬ E - S ≤ 2 := fun z => d3 ((nI_leI (b := 2) (by omega) (by decide)).mpr z)
        exact h184 (by omega)
    have h105 : S < T.length → ∀ d e f1, F3 f f1 → f1 3 0 2 = 0 → f1 3 0 3 = nI S → f1 3 0 4 = nI e → f1 3 0 5 = nI k → e + d = T.length → E = (if k = 3 then e else skU (tkB T k) d e) → X 105 [some (.inr (.inr (3, 0, 0)))] [] f1 a := by
      intro hlt d
      induction d with
      | zero =>
        intro e f1 hF e2 e3 e4 e5 hd hEe
        have hEe : E = e := by rw [hEe]; split <;> rfl
        refine hX [156] 40 _ _ _ _ _ ?_
        refine ⟨fun _ => h156 f1 hF e2 e3 (by rw [hEe]; exact e4) e5 hlt, fun _ => ⟨fun _ => h156 f1 hF e2 e3 (by rw [hEe]; exact e4) e5 hlt, fun d => ?_⟩⟩
        exact absurd ((i_le (el f1 hF) e4 (by omega) (by omega)).mpr (by omega)) d
      | succ d ih =>
        intro e f1 hF e2 e3 e4 e5 hd hEe
        have he : e < T.length := by omega
        refine hX [105, 156] 40 _ _ _ _ _ ?_
        refine ⟨fun d => ?_, fun d1 => ?_⟩
        · have d : k = 3 := (i_eq e5 (show (3 : Int32) = nI 3 from rfl) (by omega) (by decide)).mp d
          rw [if_pos d] at hEe
          exact h156 f1 hF e2 e3 (by rw [hEe]; exact e4) e5 hlt
        · have d1 : ¬ k = 3 := fun z => d1 ((i_eq e5 (show (3 : Int32) = nI 3 from rfl) (by omega) (by decide)).mpr z)
          rw [if_neg d1] at hEe
          unfold skU at hEe
          refine ⟨fun d2 => absurd ((i_le (el f1 hF) e4 (by omega) (by omega)).mp d2) (by omega), fun d2 => ?_⟩
          refine ⟨inA 160 e4 rfl (by omega) (by decide), T.getD e 0, ?_, hO.2 e he, ?_⟩
          · show a 3 0 0 (f1 3 0 4).toNatClampNeg = _
            rw [e4, nI_clamp (by omega), hT.2 e he]
          · refine ⟨fun d3 => ?_, fun d3 => ?_⟩
            · have d3 : ¬ tkN (T.getD e 0) = k := fun z => d3 ((i_eq rfl e5 (by have := tkN_lt (T.getD e 0); omega) (by omega)).mpr z)
              rw [if_neg (fun (z : tkB T k e = true) => d3 (of_decide_eq_true z))] at hEe
              exact h156 f1 hF e2 e3 (by rw [hEe]; exact e4) e5 hlt
            · have d3 : tkN (T.getD e 0) = k := (i_eq rfl e5 (by have := tkN_lt (T.getD e 0); omega) (by omega)).mp d3
              rw [if_pos (show tkB T k e = true from decide_eq_true d3)] at hEe
              refine ih (e + 1) _ (hF.up 4 (by decide) _) e2 e3 ?_ e5 (by omega) (by rw [if_neg d1]; exact hEe)
              show f1 3 0 4 + 1 = _
              rw [e4, nI_1]
    have h54 : ∀ f1, F3 f f1 → f1 3 0 2 = 0 → f1 3 0 3 = nI S → X 54 [some (.inr (.inr (3, 0, 0)))] [] f1 a := by
      intro f1 hF e2 e3
      refine hX [105] 60 _ _ _ _ _ ?_
      have hF1 := (hF.up 4 (by decide) (f1 3 0 3)).up 5 (by decide) 0
      refine ⟨fun d => ?_, fun d => ?_⟩
      · have hlt : S < T.length := (i_lt e3 (el f1 hF) (by omega) (by omega)).mp d
        refine ⟨inA 160 e3 rfl (by omega) (by decide), T.getD S 0, ?_, hO.2 S hlt, ?_⟩
        · show a 3 0 0 (f1 3 0 3).toNatClampNeg = _
          rw [e3, nI_clamp (by omega), hT.2 S hlt]
        · refine h105 hlt (T.length - (S + 1)) (S + 1) _ ((hF1.up 5 (by decide) _).up 4 (by decide) _) e2 e3 ?_ (by rw [hk]; rfl) (by omega) (by rw [hE]; unfold stE; rw [← hk])
          show f1 3 0 3 + 1 = _
          rw [e3, nI_1]
      · have hlt : ¬ S < T.length := fun z => d ((i_lt e3 (el f1 hF) (by omega) (by omega)).mpr z)
        rw [if_pos (by omega)] at h
        exact h _ hF1 ⟨e2, e3, e3, rfl⟩
    have h16 : ∀ d i f1, F3 f f1 → f1 3 0 2 = 0 → f1 3 0 3 = nI i → i + d = T.length → S = skU (blB T) d i → X 16 [some (.inr (.inr (3, 0, 0)))] [] f1 a := by
      intro d
      induction d with
      | zero =>
        intro i f1 hF e2 e3 hd hSi
        refine hX [54] 40 _ _ _ _ _ ?_
        refine ⟨fun _ => h54 f1 hF e2 (by rw [hSi]; exact e3), fun d => ?_⟩
        exact absurd ((i_le (el f1 hF) e3 (by omega) (by omega)).mpr (by omega)) d
      | succ d ih =>
        intro i f1 hF e2 e3 hd hSi
        have hi : i < T.length := by omega
        unfold skU at hSi
        refine hX [16, 54] 40 _ _ _ _ _ ?_
        refine ⟨fun d2 => absurd ((i_le (el f1 hF) e3 (by omega) (by omega)).mp d2) (by omega), fun d2 => ?_⟩
        have et : a 3 0 0 (f1 3 0 3).toNatClampNeg = nI (T.getD i 0) := by rw [e3, nI_clamp (by omega), hT.2 i hi]
        have h128 := hO.2 i hi
        have hb : a 3 0 0 (f1 3 0 3).toNatClampNeg = 32 ↔ T.getD i 0 = 32 := i_eq et (show (32 : Int32) = nI 32 from rfl) (by omega) (by decide)
        refine ⟨inA 160 e3 rfl (by omega) (by decide), ⟨fun d3 => ?_, fun d3 => ?_⟩⟩
        · have d3 : ¬ T.getD i 0 = 32 := fun z => d3 (hb.mpr z)
          rw [if_neg (fun (z : blB T i = true) => d3 (of_decide_eq_true z))] at hSi
          exact h54 f1 hF e2 (by rw [hSi]; exact e3)
        · have d3 : T.getD i 0 = 32 := hb.mp d3
          rw [if_pos (show blB T i = true from decide_eq_true d3)] at hSi
          refine ih (i + 1) _ (hF.up 3 (by decide) _) e2 ?_ (by omega) hSi
          show f1 3 0 3 + 1 = _
          rw [e3, nI_1]
    have hel := hL.2
    exact h16 (T.length - σ.2.2.1) σ.2.2.1 _ ((F3.rf f).up 3 (by decide) _) q l3 (by omega) hS
  · exact h.elim
theorem shX3_step : ∀ As f a Q, sX3_step As f a Q → ∃ i r, As = .inr (.inr (3, i, 0)) :: r := by
  intro As f a Q h
  unfold sX3_step at h
  split at h
  · exact ⟨_, _, rfl⟩
  · exact h.elim
theorem mX3_step {g : Gm} (hg : GmOK g) : MetC g yX3_step cX3_step 1 none 1 sX3_step := by
  refine MetC_of hg eX3_step (eokX3_step hg) (by decide +kernel) (fun av f a post h => ?_) rX3_step
  unfold sX3_step at h
  split at h
  · exact Nat.le_of_ble_eq_true rfl
  · exact h.elim
