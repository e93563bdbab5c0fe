/-! names, signs and numbers of the text -/
def strM (i j : Nat) : Nat := (strC i j).toNatClampNeg
theorem strM_ok : ∀ i, i < 4 → ∀ j, j < strL i → strC i j = nI (strM i j) ∧ strM i j < 128 := by decide +kernel
theorem strL_ok : ∀ i, i < 4 → strL i < 5 := by decide
def sgB (T : List Nat) (σ : Lx) (c : Nat) : Bool := decide (σ.2.2.2 = 3) && decide (T.getD σ.2.1 0 = c)
def nmB (T : List Nat) (σ : Lx) (i : Nat) : Bool := decide (σ.2.2.2 = 1) && (decide (σ.2.2.1 - σ.2.1 = strL i) && allK (fun j => decide (T.getD (σ.2.1 + j) 0 = strM i j)) (strL i))
def nuU (T : List Nat) : Nat → Nat → Nat → Nat
  | 0, _, x => x
  | d + 1, i, x => nuU T d (i + 1) (10 * x + T.getD i 0 - 48)
def nuN (T : List Nat) (σ : Lx) : Nat := nuU T (σ.2.2.1 - σ.2.1) σ.2.1 0
theorem tkN_2 {c : Nat} (h : tkN c = 2) : 48 ≤ c ∧ c ≤ 57 := by
  unfold tkN at h
  split at h
  · exact absurd h (by decide)
  · split at h
    · assumption
    · split at h <;> exact absurd h (by decide)
theorem nuN_lt {T : List Nat} {σ : Lx} (h : LOK T σ) (hk : σ.2.2.2 = 2) : nuN T σ < 100 := by
  have h1 := h.2.2.2.2.1 (by rw [hk]; decide)
  have h2 := h.2.2.2.2.2.1 hk
  unfold nuN
  rcases (show σ.2.2.1 - σ.2.1 = 1 ∨ σ.2.2.1 - σ.2.1 = 2 by omega) with e | e
  · have a1 := tkN_2 ((h1.2.2 σ.2.1 (Nat.le_refl _) (by omega)).trans hk)
    rw [e]
    show 10 * 0 + T.getD σ.2.1 0 - 48 < 100
    omega
  · have a1 := tkN_2 ((h1.2.2 σ.2.1 (Nat.le_refl _) (by omega)).trans hk)
    have a2 := tkN_2 ((h1.2.2 (σ.2.1 + 1) (by omega) (by omega)).trans hk)
    rw [e]
    show 10 * (10 * 0 + T.getD σ.2.1 0 - 48) + T.getD (σ.2.1 + 1) 0 - 48 < 100
    omega
/-- the text and the token that it stands at -/
def LT (f : FF) (a : AA) (T : List Nat) (σ : Lx) : Prop := TP (f 3 0) (a 3 0) T ∧ OKT T ∧ LX (f 3 0) σ ∧ LOK T σ
theorem LT.k {f : FF} {a : AA} {T : List Nat} {σ : Lx} (h : LT f a T σ) {n : Nat} (hn : n < 100) {x : Int32} (hx : x = nI n) : f 3 0 5 = x ↔ σ.2.2.2 = n := i_eq h.2.2.1.2.2.2 hx (by have := h.2.2.2.2.2.2.1; omega) (by omega)
theorem LT.ref {f f' : FF} {a : AA} {T : List Nat} {σ : Lx} (h : LT f a T σ) {x : Nat} (hx : x < 10) (hF : F3 f f') (hL : LX (f' 3 0) (refN x σ)) : LT f' a T (refN x σ) := ⟨hF.tp h.1, h.2.1, hL, h.2.2.2.ref hx⟩
theorem LT.stp {f f' : FF} {a : AA} {T : List Nat} {σ : Lx} (h : LT f a T σ) (hF : F3 f f') (hL : LX (f' 3 0) (stepN T σ)) : LT f' a T (stepN T σ) := ⟨hF.tp h.1, h.2.1, hL, h.2.2.2.step⟩
def sX3_isSign : SP := fun As f a Q => match As with
  | [.inr (.inr (3, 0, 0)), .inl x] => ∃ T σ c, x = nI c ∧ c < 128 ∧ LT f a T σ ∧ Q (some (.inl (b2i (sgB T σ c)))) f a
  | _ => False
def eX3_isSign : En := (tX3_isSign, [], fdX3, [], 1)
theorem eokX3_isSign {g : Gm} (hg : GmOK g) : EnvOK g 0 RX3 cX3_isSign (some .boolean) eX3_isSign := ⟨okX3_isSign, (fun _ _ _ _ h => by cases h), fdX3_ok, (fun _ _ h => by cases h), rfl⟩
theorem rX3_isSign (av : List AV) (f : FF) (a : AA) (post : PT) (h : sX3_isSign av f a post) (X : XT) (hX : Clo eX3_isSign post X) : X 0 (padL 2 (ent av)) [] f a := by
  unfold sX3_isSign at h
  split at h
  · obtain ⟨T, σ, c, rfl, hc, hL, h⟩ := h
    have hk := hL.k (n := 3) (by decide) rfl
    have hO := hL.2.2.2
    have hT := hL.2.1.1
    unfold sgB at h
    refine hX [] 60 _ _ _ _ _ ?_
    refine ⟨fun d => ?_, fun d => ?_⟩
    · exact pF h (by rw [decide_eq_false (fun z => d (hk.mpr z)), Bool.false_and])
    · have d := hk.mp d
      have h1 := hO.2.2.2.2.1 (by rw [d]; decide)
      have hs : σ.2.1 < T.length := by have := hO.2.2.1; omega
      have et : a 3 0 0 (f 3 0 3).toNatClampNeg = nI (T.getD σ.2.1 0) := by rw [hL.2.2.1.2.1, nI_clamp (by omega), hL.1.2 _ hs]
      have h128 := hL.2.1.2 _ hs
      have hb : a 3 0 0 (f 3 0 3).toNatClampNeg = nI c ↔ T.getD σ.2.1 0 = c := i_eq et rfl (by omega) (by omega)
      refine ⟨inA 160 hL.2.2.1.2.1 rfl (by omega) (by decide), ⟨fun d2 => ?_, fun d2 => ?_⟩⟩
      · exact pF h (by rw [decide_eq_true d, Bool.true_and, decide_eq_false (fun z => d2 (hb.mpr z))])
      · exact pT h (by rw [decide_eq_true d, Bool.true_and, decide_eq_true (hb.mp d2)])
  · exact h.elim
theorem shX3_isSign : ∀ As f a Q, sX3_isSign As f a Q → ∃ i r, As = .inr (.inr (3, i, 0)) :: r := by
  intro As f a Q h
  unfold sX3_isSign at h
  split at h
  · exact ⟨_, _, rfl⟩
  · exact h.elim
theorem mX3_isSign {g : Gm} (hg : GmOK g) : MetC g yX3_isSign cX3_isSign 2 (some .boolean) 0 sX3_isSign := by
  refine MetC_of hg eX3_isSign (eokX3_isSign hg) (by decide +kernel) (fun av f a post h => ?_) rX3_isSign
  unfold sX3_isSign at h
  split at h
  · exact Nat.le_of_ble_eq_true rfl
  · exact h.elim
def sX3_numberRead : SP := fun As f a Q => match As with
  | [.inr (.inr (3, 0, 0))] => ∃ T σ, LT f a T σ ∧ σ.2.2.2 = 2 ∧ Q (some (.inl (nI (nuN T σ)))) f a
  | _ => False
def eX3_numberRead : En := (tX3_numberRead, [], fdX3, [], 0)
theorem eokX3_numberRead {g : Gm} (hg : GmOK g) : EnvOK g 0 RX3 cX3_numberRead (some .int) eX3_numberRead := ⟨okX3_numberRead, (fun _ _ _ _ h => by cases h), fdX3_ok, (fun _ _ h => by cases h), rfl⟩
theorem nI_mul (a b : Nat) : nI a * nI b = nI (a * b) := (Int32.ofNat_mul a b).symm
theorem rX3_numberRead (av : List AV) (f : FF) (a : AA) (post : PT) (h : sX3_numberRead av f a post) (X : XT) (hX : Clo eX3_numberRead post X) : X 0 (padL 3 (ent av)) [] f a := by
  unfold sX3_numberRead at h
  split at h
  · obtain ⟨T, σ, hL, hk, h⟩ := h
    have hO := hL.2.2.2
    have hT := hL.2.1.1
    have h1 := hO.2.2.2.2.1 (by rw [hk]; decide)
    have he := hO.2.2.1
    have key : ∀ d i x, i + d = σ.2.2.1 → σ.2.1 ≤ i → nuN T σ = nuU T d i x → X 7 [some (.inr (.inr (3, 0, 0))), some (.inl (nI x)), some (.inl (nI i))] [] f a := by
      intro d
      induction d with
      | zero =>
        intro i x hd hi hn
        refine hX [] 60 _ _ _ _ _ ?_
        refine ⟨fun _ => pI h (by rw [hn]; rfl), fun q => absurd ((i_le hL.2.2.1.2.2.1 rfl (by omega) (by omega)).mpr (by omega)) q⟩
      | succ d ih =>
        intro i x hd hi hn
        refine hX [7] 60 _ _ _ _ _ ?_
        refine ⟨fun q => absurd ((i_le hL.2.2.1.2.2.1 rfl (by omega) (by omega)).mp q) (by omega), fun q => ?_⟩
        refine ⟨inA 160 rfl rfl (by omega) (by decide), ?_⟩
        have a1 := tkN_2 ((h1.2.2 i hi (by omega)).trans hk)
        have e1 : 10 * nI x + a 3 0 0 (nI i).toNatClampNeg - 48 = nI (10 * x + T.getD i 0 - 48) := by
          rw [nI_clamp (by omega), hL.1.2 i (by omega), show (10 : Int32) = nI 10 from rfl, nI_mul, nI_add, show (48 : Int32) = nI 48 from rfl, pk_sub (by omega)]
        have K := ih (i + 1) (10 * x + T.getD i 0 - 48) (by omega) (by omega) hn
        rw [← e1, ← nI_1] at K
        exact K
    exact hX [7] 20 _ _ _ _ _ (show X 7 [some (.inr (.inr (3, 0, 0))), some (.inl (nI 0)), some (.inl (f 3 0 3))] [] f a by
      rw [hL.2.2.1.2.1]
      exact key (σ.2.2.1 - σ.2.1) σ.2.1 0 (by omega) (Nat.le_refl _) rfl)
  · exact h.elim
theorem shX3_numberRead : ∀ As f a Q, sX3_numberRead As f a Q → ∃ i r, As = .inr (.inr (3, i, 0)) :: r := by
  intro As f a Q h
  unfold sX3_numberRead at h
  split at h
  · exact ⟨_, _, rfl⟩
  · exact h.elim
theorem mX3_numberRead {g : Gm} (hg : GmOK g) : MetC g yX3_numberRead cX3_numberRead 3 (some .int) 0 sX3_numberRead := by
  refine MetC_of hg eX3_numberRead (eokX3_numberRead hg) (by decide +kernel) (fun av f a post h => ?_) rX3_numberRead
  unfold sX3_numberRead at h
  split at h
  · exact Nat.le_of_ble_eq_true rfl
  · exact h.elim
