/-! what is taken of the text -/
def sX3_isName : SP := fun As f a Q => match As with
  | [.inr (.inr (3, 0, 0)), .inr (.inr (9, i, 0))] => ∃ T σ, i < 4 ∧ LT f a T σ ∧ Q (some (.inl (b2i (nmB T σ i)))) f a
  | _ => False
def eX3_isName : En := (tX3_isName, [(107, false, 1, sJ0_length), (112, false, 2, sJ0_charAt)], fdX3, [], 1)
theorem eokX3_isName {g : Gm} (hg : GmOK g) : EnvOK g 5 RX3 cX3_isName (some .boolean) eX3_isName := ⟨okX3_isName, fun _ _ _ _ h => as2_all (P := fun i v => CallOK g 5 RX3 i v.1 v.2.1 v.2.2) (l := eX3_isName.2.1) ⟨callJ0_length_X3_107 hg (by decide), callJ0_charAt_X3_112 hg (by decide), trivial⟩ h, fdX3_ok, (fun _ _ h => by cases h), rfl⟩
theorem rX3_isName (av : List AV) (f : FF) (a : AA) (post : PT) (h : sX3_isName av f a post) (X : XT) (hX : Clo eX3_isName post X) : X 0 (padL 3 (ent av)) [] f a := by
  unfold sX3_isName at h
  split at h
  · rename_i i
    obtain ⟨T, σ, hi, hL, h⟩ := h
    have hO := hL.2.2.2
    have hT := hL.2.1.1
    have hk := hL.k (n := 1) (by decide) rfl
    have hl5 := strL_ok i hi
    unfold nmB at h
    have h24 : (decide (σ.2.2.2 = 1) && (decide (σ.2.2.1 - σ.2.1 = strL i) && allK (fun j => decide (T.getD (σ.2.1 + j) 0 = strM i j)) (strL i))) = false → X 24 [some (.inr (.inr (3, 0, 0))), some (.inr (.inr (9, i, 0))), none] [] f a := fun z => hX [] 20 _ _ _ _ _ (pF h z)
    refine hX [24, 28] 60 _ _ _ _ _ ?_
    refine ⟨fun d => h24 (by rw [decide_eq_false (fun z => d (hk.mpr z)), Bool.false_and]), fun d => ⟨hi, ?_⟩⟩
    have d := hk.mp d
    have h1 := hO.2.2.2.2.1 (by rw [d]; decide)
    have he := hO.2.2.1
    have hd : f 3 0 4 - f 3 0 3 = nI (strL i) ↔ σ.2.2.1 - σ.2.1 = strL i := i_eq (by rw [hL.2.2.1.2.2.1, hL.2.2.1.2.1, pk_sub (by omega)]) rfl (by omega) (by omega)
    refine ⟨fun d2 => ?_, fun d2 => h24 (by rw [decide_eq_true d, Bool.true_and, decide_eq_false (fun z => d2 (hd.mpr z)), Bool.false_and])⟩
    have d2 := hd.mp d2
    rw [decide_eq_true d, Bool.true_and, decide_eq_true d2, Bool.true_and] at h
    refine forUp (n := strL i) (Pr := fun j => (∀ m, m < j → T.getD (σ.2.1 + m) 0 = strM i m) → X 28 [some (.inr (.inr (3, 0, 0))), some (.inr (.inr (9, i, 0))), some (.inl (nI j))] [] f a) ?_ ?_ 0 (Nat.zero_le _) (fun m hm => absurd hm (Nat.not_lt_zero m))
    · intro j hj ih hp
      refine hX [28] 60 _ _ _ _ _ ?_
      refine ⟨hi, ⟨fun q => absurd ((i_le rfl rfl (by omega) (by omega)).mp q) (by omega), fun q => ?_⟩⟩
      have e3 : f 3 0 3 + nI j = nI (σ.2.1 + j) := by rw [hL.2.2.1.2.1, nI_add]
      have hs : σ.2.1 + j < T.length := by omega
      have et : a 3 0 0 (f 3 0 3 + nI j).toNatClampNeg = nI (T.getD (σ.2.1 + j) 0) := by rw [e3, nI_clamp (by omega), hL.1.2 _ hs]
      have h128 := hL.2.1.2 _ hs
      have hM := strM_ok i hi j hj
      have hb : a 3 0 0 (f 3 0 3 + nI j).toNatClampNeg = strC i j ↔ T.getD (σ.2.1 + j) 0 = strM i j := i_eq et hM.1 (by omega) (by omega)
      refine ⟨inA 160 e3 rfl (by omega) (by decide), j, hi, rfl, hj, ⟨fun q2 => ?_, fun q2 => ?_⟩⟩
      · have K := ih (fun m hm => by
          rcases (show m < j ∨ m = j by omega) with z | rfl
          · exact hp m z
          · exact hb.mp q2)
        rw [← nI_1] at K
        exact K
      · exact pF h (allK_false hj (decide_eq_false (fun z => q2 (hb.mpr z))))
    · intro hp
      refine hX [] 60 _ _ _ _ _ ?_
      refine ⟨hi, ⟨fun q => pT h (allK_true (fun m hm => decide_eq_true (hp m hm))), fun q => absurd (Int32.le_refl (nI (strL i))) q⟩⟩
  · exact h.elim
theorem shX3_isName : ∀ As f a Q, sX3_isName As f a Q → ∃ i r, As = .inr (.inr (3, i, 0)) :: r := by
  intro As f a Q h
  unfold sX3_isName at h
  split at h
  · exact ⟨_, _, rfl⟩
  · exact h.elim
theorem mX3_isName {g : Gm} (hg : GmOK g) : MetC g yX3_isName cX3_isName 3 (some .boolean) 5 sX3_isName := by
  refine MetC_of hg eX3_isName (eokX3_isName hg) (by decide +kernel) (fun av f a post h => ?_) rX3_isName
  unfold sX3_isName at h
  split at h
  · exact Nat.le_of_ble_eq_true rfl
  · exact h.elim
def tlS (T : List Nat) (σ : Lx) : Lx := if sgB T σ 59 then stepN T σ else refN 2 σ
def sX3_takeLineEnd : SP := fun As f a Q => match As with
  | [.inr (.inr (3, 0, 0))] => ∃ T σ, LT f a T σ ∧ ∀ f', F3 f f' → LT f' a T (tlS T σ) → Q none f' a
  | _ => False
def eX3_takeLineEnd : En := (tX3_takeLineEnd, [(88, false, 2, sX3_isSign), (22, false, 1, sX3_step), (43, false, 2, sX3_refuse)], fdX3, [], 2)
theorem eokX3_takeLineEnd {g : Gm} (hg : GmOK g) : EnvOK g 2 RX3 cX3_takeLineEnd none eX3_takeLineEnd := ⟨okX3_takeLineEnd, fun _ _ _ _ h => as2_all (P := fun i v => CallOK g 2 RX3 i v.1 v.2.1 v.2.2) (l := eX3_takeLineEnd.2.1) ⟨callV_ok (t := 3) hg (mX3_isSign hg) kX3_isSign mlX3_88 qX3_isSign.1 qX3_isSign.2 ⟨by decide, by decide⟩ ⟨_, _, rfl⟩ shX3_isSign, callV_ok (t := 3) hg (mX3_step hg) kX3_step mlX3_22 qX3_step.1 qX3_step.2 ⟨by decide, by decide⟩ ⟨_, _, rfl⟩ shX3_step, callV_ok (t := 3) hg (mX3_refuse hg) kX3_refuse mlX3_43 qX3_refuse.1 qX3_refuse.2 ⟨by decide, by decide⟩ ⟨_, _, rfl⟩ shX3_refuse, trivial⟩ h, fdX3_ok, (fun _ _ h => by cases h), rfl⟩
theorem rX3_takeLineEnd (av : List AV) (f : FF) (a : AA) (post : PT) (h : sX3_takeLineEnd av f a post) (X : XT) (hX : Clo eX3_takeLineEnd post X) : X 0 (padL 1 (ent av)) [] f a := by
  unfold sX3_takeLineEnd at h
  split at h
  · obtain ⟨T, σ, hL, h⟩ := h
    unfold tlS at h
    refine hX [] 60 _ _ _ _ _ ?_
    refine ⟨T, σ, 59, rfl, by decide, hL, ⟨fun d => ?_, fun d => ?_⟩⟩
    · have d := b2i_e0.mp d
      simp only [d, Bool.false_eq_true, if_false] at h
      exact ⟨2, σ, rfl, hL.2.2.1, hL.2.2.2.1, fun f1 hF h1 => h f1 hF (hL.ref (by decide) hF h1)⟩
    · have d := b2i_n0.mp d
      simp only [d, if_true] at h
      exact ⟨T, σ, hL.1, hL.2.1, hL.2.2.1, hL.2.2.2.l0, fun f1 hF h1 => h f1 hF (hL.stp hF h1)⟩
  · exact h.elim
theorem shX3_takeLineEnd : ∀ As f a Q, sX3_takeLineEnd As f a Q → ∃ i r, As = .inr (.inr (3, i, 0)) :: r := by
  intro As f a Q h
  unfold sX3_takeLineEnd at h
  split at h
  · exact ⟨_, _, rfl⟩
  · exact h.elim
theorem mX3_takeLineEnd {g : Gm} (hg : GmOK g) : MetC g yX3_takeLineEnd cX3_takeLineEnd 1 none 2 sX3_takeLineEnd := by
  refine MetC_of hg eX3_takeLineEnd (eokX3_takeLineEnd hg) (by decide +kernel) (fun av f a post h => ?_) rX3_takeLineEnd
  unfold sX3_takeLineEnd at h
  split at h
  · exact Nat.le_of_ble_eq_true rfl
  · exact h.elim
def tnB (T : List Nat) (lo hi : Nat) (σ : Lx) : Bool := decide (σ.2.2.2 = 2) && (decide (lo ≤ nuN T σ) && decide (nuN T σ < hi))
def tnV (T : List Nat) (lo hi : Nat) (σ : Lx) : Nat := if tnB T lo hi σ then nuN T σ else lo
def tnS (T : List Nat) (lo hi : Nat) (σ : Lx) : Lx := if tnB T lo hi σ then stepN T σ else refN (if σ.2.2.2 = 2 then 3 else 2) σ
def sX3_takeNumber : SP := fun As f a Q => match As with
  | [.inr (.inr (3, 0, 0)), .inl x, .inl y] => ∃ T σ lo hi, x = nI lo ∧ y = nI hi - 1 ∧ lo < 100 ∧ hi < 100 ∧ LT f a T σ ∧ ∀ f', F3 f f' → LT f' a T (tnS T lo hi σ) → Q (some (.inl (nI (tnV T lo hi σ)))) f' a
  | _ => False
def eX3_takeNumber : En := (tX3_takeNumber, [(43, false, 2, sX3_refuse), (100, false, 1, sX3_numberRead), (22, false, 1, sX3_step)], fdX3, [], 0)
theorem eokX3_takeNumber {g : Gm} (hg : GmOK g) : EnvOK g 2 RX3 cX3_takeNumber (some .int) eX3_takeNumber := ⟨okX3_takeNumber, fun _ _ _ _ h => as2_all (P := fun i v => CallOK g 2 RX3 i v.1 v.2.1 v.2.2) (l := eX3_takeNumber.2.1) ⟨callV_ok (t := 3) hg (mX3_refuse hg) kX3_refuse mlX3_43 qX3_refuse.1 qX3_refuse.2 ⟨by decide, by decide⟩ ⟨_, _, rfl⟩ shX3_refuse, callV_ok (t := 3) hg (mX3_numberRead hg) kX3_numberRead mlX3_100 qX3_numberRead.1 qX3_numberRead.2 ⟨by decide, by decide⟩ ⟨_, _, rfl⟩ shX3_numberRead, callV_ok (t := 3) hg (mX3_step hg) kX3_step mlX3_22 qX3_step.1 qX3_step.2 ⟨by decide, by decide⟩ ⟨_, _, rfl⟩ shX3_step, trivial⟩ h, fdX3_ok, (fun _ _ h => by cases h), rfl⟩
theorem rX3_takeNumber (av : List AV) (f : FF) (a : AA) (post : PT) (h : sX3_takeNumber av f a post) (X : XT) (hX : Clo eX3_takeNumber post X) : X 0 (padL 4 (ent av)) [] f a := by
  unfold sX3_takeNumber at h
  split at h
  · obtain ⟨T, σ, lo, hi, rfl, rfl, hlo, hhi, hL, h⟩ := h
    have hk := hL.k (n := 2) (by decide) rfl
    unfold tnV tnS at h
    refine hX [30] 60 _ _ _ _ _ ?_
    refine ⟨fun d => ?_, fun d => ?_⟩
    · have d := hk.mp d
      have hn := nuN_lt hL.2.2.2 d
      have h30 : ∀ z, tnB T lo hi σ = false → X 30 [some (.inr (.inr (3, 0, 0))), some (.inl (nI lo)), some (.inl (nI hi - 1)), z] [] f a := fun z e => by
        refine hX [] 40 _ _ _ _ _ ?_
        simp only [e, Bool.false_eq_true, if_false, if_pos d] at h
        exact ⟨3, σ, rfl, hL.2.2.1, hL.2.2.2.1, fun f1 hF h1 => h f1 hF (hL.ref (by decide) hF h1)⟩
      have c1 : nI (nuN T σ) < nI lo ↔ nuN T σ < lo := nI_ltI (by omega) (by omega)
      have c2 : nI (nuN T σ) ≤ nI hi - 1 ↔ nuN T σ < hi := by
        rw [← Int32.not_lt, show nI hi - 1 < nI (nuN T σ) ↔ hi < nuN T σ + 1 from sub_lt (n := hi) (by omega) (by omega) 1 (by decide)]
        omega
      have eB : tnB T lo hi σ = (decide (lo ≤ nuN T σ) && decide (nuN T σ < hi)) := by
        unfold tnB
        rw [decide_eq_true d, Bool.true_and]
      refine ⟨T, σ, hL, d, ⟨fun q => ?_, fun q => ⟨fun q2 => ?_, fun q2 => ?_⟩⟩⟩
      · have q := c1.mp q
        exact h30 _ (by rw [eB, decide_eq_false (by omega), Bool.false_and])
      · have q : ¬ nuN T σ < lo := fun z => q (c1.mpr z)
        have q2 := c2.mp q2
        have e : tnB T lo hi σ = true := by rw [eB, decide_eq_true (by omega), decide_eq_true q2]; rfl
        simp only [e, if_true] at h
        exact ⟨T, σ, hL.1, hL.2.1, hL.2.2.1, hL.2.2.2.l0, fun f1 hF h1 => h f1 hF (hL.stp hF h1)⟩
      · exact h30 _ (by rw [eB, decide_eq_false (fun z => q2 (c2.mpr z)), Bool.and_false])
    · have d : ¬ σ.2.2.2 = 2 := fun z => d (hk.mpr z)
      have e : tnB T lo hi σ = false := by
        unfold tnB
        rw [decide_eq_false d, Bool.false_and]
      simp only [e, Bool.false_eq_true, if_false, if_neg d] at h
      exact ⟨2, σ, rfl, hL.2.2.1, hL.2.2.2.1, fun f1 hF h1 => h f1 hF (hL.ref (by decide) hF h1)⟩
  · exact h.elim
theorem shX3_takeNumber : ∀ As f a Q, sX3_takeNumber As f a Q → ∃ i r, As = .inr (.inr (3, i, 0)) :: r := by
  intro As f a Q h
  unfold sX3_takeNumber at h
  split at h
  · exact ⟨_, _, rfl⟩
  · exact h.elim
theorem mX3_takeNumber {g : Gm} (hg : GmOK g) : MetC g yX3_takeNumber cX3_takeNumber 4 (some .int) 2 sX3_takeNumber := by
  refine MetC_of hg eX3_takeNumber (eokX3_takeNumber hg) (by decide +kernel) (fun av f a post h => ?_) rX3_takeNumber
  unfold sX3_takeNumber at h
  split at h
  · exact Nat.le_of_ble_eq_true rfl
  · exact h.elim
def tvV (T : List Nat) (σ : Lx) : Nat := if nmB T σ 2 then 1 else 0
def tvS (T : List Nat) (n : Nat) (σ : Lx) : Lx := if nmB T σ 2 then (if n < 2 then refN 3 σ else stepN T σ) else if nmB T σ 3 then stepN T σ else refN 2 σ
def sX3_takeValue : SP := fun As f a Q => match As with
  | [.inr (.inr (3, 0, 0)), .inl x] => ∃ T σ n, x = nI n ∧ n < 3 ∧ LT f a T σ ∧ ∀ f', F3 f f' → LT f' a T (tvS T n σ) → Q (some (.inl (nI (tvV T σ)))) f' a
  | _ => False
def eX3_takeValue : En := (tX3_takeValue, [(30, false, 2, sX3_isName), (43, false, 2, sX3_refuse), (22, false, 1, sX3_step), (96, true, 1, sX4_bit)], fdX3, [(92, .inr (.inr (9, 2, 0))), (94, .inr (.inr (9, 3, 0)))], 0)
theorem eokX3_takeValue {g : Gm} (hg : GmOK g) : EnvOK g 6 RX3 cX3_takeValue (some .int) eX3_takeValue := ⟨okX3_takeValue, fun _ _ _ _ h => as2_all (P := fun i v => CallOK g 6 RX3 i v.1 v.2.1 v.2.2) (l := eX3_takeValue.2.1) ⟨callV_ok (t := 3) hg (mX3_isName hg) kX3_isName mlX3_30 qX3_isName.1 qX3_isName.2 ⟨by decide, by decide⟩ ⟨_, _, rfl⟩ shX3_isName, callV_ok (t := 3) hg (mX3_refuse hg) kX3_refuse mlX3_43 qX3_refuse.1 qX3_refuse.2 ⟨by decide, by decide⟩ ⟨_, _, rfl⟩ shX3_refuse, callV_ok (t := 3) hg (mX3_step hg) kX3_step mlX3_22 qX3_step.1 qX3_step.2 ⟨by decide, by decide⟩ ⟨_, _, rfl⟩ shX3_step, callN_ok (host := "FallingCalls") hg (mX4_bit hg) kX4_bit (nxX3_96 hg) qX4_bit ⟨by decide, by decide⟩, trivial⟩ h, fdX3_ok, fun _ _ h => as2_all (P := fun i v => CstOK g RX3 i v ∧ vld v) (l := eX3_takeValue.2.2.2.1) ⟨cstX3_92 hg, cstX3_94 hg, trivial⟩ h, rfl⟩
theorem rX3_takeValue (av : List AV) (f : FF) (a : AA) (post : PT) (h : sX3_takeValue av f a post) (X : XT) (hX : Clo eX3_takeValue post X) : X 0 (padL 3 (ent av)) [] f a := by
  unfold sX3_takeValue at h
  split at h
  · obtain ⟨T, σ, n, rfl, hn, hL, h⟩ := h
    have c2 : (2 : Int32) ≤ nI n ↔ 2 ≤ n := i_le (show (2 : Int32) = nI 2 from rfl) rfl (by decide) (by omega)
    unfold tvV tvS at h
    refine hX [49] 60 _ _ _ _ _ ?_
    have h49 : ∀ f1, post (some (.inl (nI (if nmB T σ 2 then 1 else 0)))) f1 a → X 49 [some (.inr (.inr (3, 0, 0))), some (.inl (nI n)), some (.inl (b2i (nmB T σ 2)))] [] f1 a := fun f1 K => by
      refine hX [] 20 _ _ _ _ _ ?_
      refine pI K ?_
      cases nmB T σ 2 <;> rfl
    refine ⟨T, σ, by decide, hL, ⟨fun d => ?_, fun d => ?_⟩⟩
    · have d := b2i_n0.mp d
      refine ⟨fun z => absurd d (by rw [b2i_e0.mp z]; decide), fun _ => ⟨fun q => ?_, fun q => ?_⟩⟩
      · have q := c2.mp q
        refine ⟨T, σ, hL.1, hL.2.1, hL.2.2.1, hL.2.2.2.l0, fun f1 hF h1 => h49 f1 (h f1 hF ?_)⟩
        rw [if_pos d, if_neg (by omega)]
        exact hL.stp hF h1
      · have q : ¬ 2 ≤ n := fun z => q (c2.mpr z)
        refine ⟨3, σ, rfl, hL.2.2.1, hL.2.2.2.1, fun f1 hF h1 => h49 f1 (h f1 hF ?_)⟩
        rw [if_pos d, if_pos (by omega)]
        exact hL.ref (by decide) hF h1
    · have d0 : nmB T σ 2 = false := b2i_e0.mp d
      have dn : ¬ nmB T σ 2 = true := by rw [d0]; decide
      refine ⟨T, σ, by decide, hL, ⟨fun q => ?_, fun q => ?_⟩⟩
      · have q := b2i_n0.mp q
        refine ⟨fun _ => ?_, fun z => absurd (b2i_f d0) z⟩
        refine ⟨T, σ, hL.1, hL.2.1, hL.2.2.1, hL.2.2.2.l0, fun f1 hF h1 => h49 f1 (h f1 hF ?_)⟩
        rw [if_neg dn, if_pos q]
        exact hL.stp hF h1
      · have q : ¬ nmB T σ 3 = true := by rw [b2i_e0.mp q]; decide
        refine ⟨2, σ, rfl, hL.2.2.1, hL.2.2.2.1, fun f1 hF h1 => h49 f1 (h f1 hF ?_)⟩
        rw [if_neg dn, if_neg q]
        exact hL.ref (by decide) hF h1
  · exact h.elim
theorem shX3_takeValue : ∀ As f a Q, sX3_takeValue As f a Q → ∃ i r, As = .inr (.inr (3, i, 0)) :: r := by
  intro As f a Q h
  unfold sX3_takeValue at h
  split at h
  · exact ⟨_, _, rfl⟩
  · exact h.elim
theorem mX3_takeValue {g : Gm} (hg : GmOK g) : MetC g yX3_takeValue cX3_takeValue 3 (some .int) 6 sX3_takeValue := by
  refine MetC_of hg eX3_takeValue (eokX3_takeValue hg) (by decide +kernel) (fun av f a post h => ?_) rX3_takeValue
  unfold sX3_takeValue at h
  split at h
  · exact Nat.le_of_ble_eq_true rfl
  · exact h.elim
theorem tvV_lt (T : List Nat) (σ : Lx) : tvV T σ < 2 := by
  unfold tvV
  split <;> decide
/-- an argument: how it is told, and the token behind it -/
def taN (T : List Nat) (n : Nat) (σ : Lx) : Nat × Lx := if σ.2.2.2 = 2 then (tnV T 0 10 σ, tnS T 0 10 σ) else
  if sgB T (tvS T n σ) 45 then (100 + 10 * tvV T σ + tnV T 0 10 (stepN T (tvS T n σ)), tnS T 0 10 (stepN T (tvS T n σ))) else
  if sgB T (tvS T n σ) 47 then (200 + 10 * tvV T σ + tnV T 1 10 (stepN T (tvS T n σ)), tnS T 1 10 (stepN T (tvS T n σ))) else
  if sgB T (tvS T n σ) 43 then (300 + 10 * tvV T σ + tnV T 0 10 (stepN T (tvS T n σ)), tnS T 0 10 (stepN T (tvS T n σ))) else
  if sgB T (tvS T n σ) 38 then (if tvV T (stepN T (tvS T n σ)) = tvV T σ then 100 + 10 * tvV T σ else 400, tvS T n (stepN T (tvS T n σ))) else
  (100 + 10 * tvV T σ, tvS T n σ)
def sX3_takeArgument : SP := fun As f a Q => match As with
  | [.inr (.inr (3, 0, 0)), .inl x] => ∃ T σ n, x = nI n ∧ n < 3 ∧ LT f a T σ ∧ ∀ f', F3 f f' → LT f' a T (taN T n σ).2 → Q (some (.inl (nI (taN T n σ).1))) f' a
  | _ => False
def eX3_takeArgument : En := (tX3_takeArgument, [(52, false, 3, sX3_takeNumber), (81, true, 3, sX4_argumentOf), (85, false, 2, sX3_takeValue), (88, false, 2, sX3_isSign), (22, false, 1, sX3_step)], fdX3, [], 0)
theorem eokX3_takeArgument {g : Gm} (hg : GmOK g) : EnvOK g 7 RX3 cX3_takeArgument (some .int) eX3_takeArgument := ⟨okX3_takeArgument, fun _ _ _ _ h => as2_all (P := fun i v => CallOK g 7 RX3 i v.1 v.2.1 v.2.2) (l := eX3_takeArgument.2.1) ⟨callV_ok (t := 3) hg (mX3_takeNumber hg) kX3_takeNumber mlX3_52 qX3_takeNumber.1 qX3_takeNumber.2 ⟨by decide, by decide⟩ ⟨_, _, rfl⟩ shX3_takeNumber, callN_ok (host := "FallingCalls") hg (mX4_argumentOf hg) kX4_argumentOf (nxX3_81 hg) qX4_argumentOf ⟨by decide, by decide⟩, callV_ok (t := 3) hg (mX3_takeValue hg) kX3_takeValue mlX3_85 qX3_takeValue.1 qX3_takeValue.2 ⟨by decide, by decide⟩ ⟨_, _, rfl⟩ shX3_takeValue, callV_ok (t := 3) hg (mX3_isSign hg) kX3_isSign mlX3_88 qX3_isSign.1 qX3_isSign.2 ⟨by decide, by decide⟩ ⟨_, _, rfl⟩ shX3_isSign, callV_ok (t := 3) hg (mX3_step hg) kX3_step mlX3_22 qX3_step.1 qX3_step.2 ⟨by decide, by decide⟩ ⟨_, _, rfl⟩ shX3_step, trivial⟩ h, fdX3_ok, (fun _ _ h => by cases h), rfl⟩
theorem arg3 (x y z : Nat) : 100 * nI x + 10 * nI y + nI z = nI (100 * x + 10 * y + z) := by
  rw [show (100 : Int32) = nI 100 from rfl, show (10 : Int32) = nI 10 from rfl, nI_mul, nI_mul, nI_add, nI_add]
theorem rX3_takeArgument (av : List AV) (f : FF) (a : AA) (post : PT) (h : sX3_takeArgument av f a post) (X : XT) (hX : Clo eX3_takeArgument post X) : X 0 (padL 3 (ent av)) [] f a := by
  unfold sX3_takeArgument at h
  split at h
  · obtain ⟨T, σ, n, rfl, hn, hL, h⟩ := h
    have hk := hL.k (n := 2) (by decide) rfl
    unfold taN at h
    refine hX [21] 60 _ _ _ _ _ ?_
    refine ⟨fun d => ?_, fun d => ?_⟩
    · have d : ¬ σ.2.2.2 = 2 := fun z => d (hk.mpr z)
      simp only [if_neg d] at h
      obtain ⟨σ1, e1⟩ : ∃ σ1, σ1 = tvS T n σ := ⟨_, rfl⟩
      obtain ⟨v, ev⟩ : ∃ v, v = tvV T σ := ⟨_, rfl⟩
      have hv2 := tvV_lt T σ
      rw [← ev] at hv2
      simp only [← e1, ← ev] at h
      refine hX [134] 90 _ _ _ _ _ ?_
      refine ⟨T, σ, n, rfl, hn, hL, fun f1 hF hL1 => ?_⟩
      rw [← e1] at hL1
      have num : ∀ (k lo : Nat), lo < 2 → (∀ f', F3 f f' → LT f' a T (tnS T lo 10 (stepN T σ1)) → post (some (.inl (nI (100 * k + 10 * v + tnV T lo 10 (stepN T σ1))))) f' a) →
          ∀ f2, F3 f f2 → LT f2 a T (tnS T lo 10 (stepN T σ1)) → post (some (.inl (100 * nI k + 10 * nI v + nI (tnV T lo 10 (stepN T σ1))))) f2 a := fun k lo _ K f2 hF2 hL2 => pI (K f2 hF2 hL2) (arg3 _ _ _).symm
      refine ⟨T, σ1, 45, rfl, by decide, hL1, ⟨fun q1 => ?_, fun q1 => ?_⟩⟩
      · have q1 := b2i_e0.mp q1
        refine ⟨T, σ1, 47, rfl, by decide, hL1, ⟨fun q2 => ?_, fun q2 => ?_⟩⟩
        · have q2 := b2i_e0.mp q2
          refine ⟨T, σ1, 43, rfl, by decide, hL1, ⟨fun q3 => ?_, fun q3 => ?_⟩⟩
          · have q3 := b2i_e0.mp q3
            refine ⟨T, σ1, 38, rfl, by decide, hL1, ⟨fun q4 => ?_, fun q4 => ?_⟩⟩
            · have q4 := b2i_e0.mp q4
              simp only [q1, q2, q3, q4, Bool.false_eq_true, if_false] at h
              rw [← ev]
              exact hX [] 20 _ _ _ _ _ (pI (h f1 hF hL1) (by rw [show (1 : Int32) = nI 1 from rfl, show (0 : Int32) = nI 0 from rfl, arg3]; rfl))
            · have q4 := b2i_n0.mp q4
              simp only [q1, q2, q3, q4, Bool.false_eq_true, if_false, if_true] at h
              refine ⟨T, σ1, hL1.1, hL1.2.1, hL1.2.2.1, hL1.2.2.2.l0, fun f2 hF2 h2 => ?_⟩
              have hL2 := hL1.stp hF2 h2
              refine ⟨T, stepN T σ1, n, rfl, hn, hL2, fun f3 hF3 hL3 => ?_⟩
              have hw2 := tvV_lt T (stepN T σ1)
              have hE : nI (tvV T (stepN T σ1)) = nI (tvV T σ) ↔ tvV T (stepN T σ1) = tvV T σ := nI_eq (by omega) (by omega)
              have K := h f3 ((hF.tr hF2).tr hF3) hL3
              rw [ev] at K
              refine ⟨fun q5 => ?_, fun q5 => ?_⟩
              · rw [if_pos (hE.mp q5)] at K
                exact hX [] 20 _ _ _ _ _ (pI K (by rw [show (1 : Int32) = nI 1 from rfl, show (0 : Int32) = nI 0 from rfl, arg3]; rfl))
              · rw [if_neg (fun z => q5 (hE.mpr z))] at K
                exact pI K rfl
          · have q3 := b2i_n0.mp q3
            simp only [q1, q2, q3, Bool.false_eq_true, if_false, if_true] at h
            refine ⟨T, σ1, hL1.1, hL1.2.1, hL1.2.2.1, hL1.2.2.2.l0, fun f2 hF2 h2 => ?_⟩
            refine ⟨T, stepN T σ1, 0, 10, rfl, rfl, by decide, by decide, hL1.stp hF2 h2, fun f3 hF3 hL3 => ?_⟩
            rw [← ev]
            exact num 3 0 (by decide) h f3 ((hF.tr hF2).tr hF3) hL3
        · have q2 := b2i_n0.mp q2
          simp only [q1, q2, Bool.false_eq_true, if_false, if_true] at h
          refine ⟨T, σ1, hL1.1, hL1.2.1, hL1.2.2.1, hL1.2.2.2.l0, fun f2 hF2 h2 => ?_⟩
          refine ⟨T, stepN T σ1, 1, 10, rfl, rfl, by decide, by decide, hL1.stp hF2 h2, fun f3 hF3 hL3 => ?_⟩
          rw [← ev]
          exact num 2 1 (by decide) h f3 ((hF.tr hF2).tr hF3) hL3
      · have q1 := b2i_n0.mp q1
        simp only [q1, if_true] at h
        refine ⟨T, σ1, hL1.1, hL1.2.1, hL1.2.2.1, hL1.2.2.2.l0, fun f2 hF2 h2 => ?_⟩
        refine ⟨T, stepN T σ1, 0, 10, rfl, rfl, by decide, by decide, hL1.stp hF2 h2, fun f3 hF3 hL3 => ?_⟩
        rw [← ev]
        exact num 1 0 (by decide) h f3 ((hF.tr hF2).tr hF3) hL3
    · have d := hk.mp d
      simp only [if_pos d] at h
      refine ⟨T, σ, 0, 10, rfl, rfl, by decide, by decide, hL, fun f1 hF hL1 => ?_⟩
      exact pI (h f1 hF hL1) (by rw [show (0 : Int32) = nI 0 from rfl, arg3]; congr 1; omega)
  · exact h.elim
theorem shX3_takeArgument : ∀ As f a Q, sX3_takeArgument As f a Q → ∃ i r, As = .inr (.inr (3, i, 0)) :: r := by
  intro As f a Q h
  unfold sX3_takeArgument at h
  split at h
  · exact ⟨_, _, rfl⟩
  · exact h.elim
theorem mX3_takeArgument {g : Gm} (hg : GmOK g) : MetC g yX3_takeArgument cX3_takeArgument 3 (some .int) 7 sX3_takeArgument := by
  refine MetC_of hg eX3_takeArgument (eokX3_takeArgument hg) (by decide +kernel) (fun av f a post h => ?_) rX3_takeArgument
  unfold sX3_takeArgument at h
  split at h
  · exact Nat.le_of_ble_eq_true rfl
  · exact h.elim
