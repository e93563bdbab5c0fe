/-! the system's questions -/
theorem sw {x : Int32} {k : Nat} (h : x.toInt = (0 : Int) + (k : Int)) : x.toInt = (k : Int) := by rw [h]; omega
theorem funx {A : Ab} (hO : OKA A) {f : FF} {a : AA} (hA : RepC f a A) {x : Int32} (h : ¬ b2i (decide (0 ≤ x ∧ x < f 1 0 4)) = 0) : ∃ i, x = nI i ∧ i < (aP A).1.length ∧ i < 3 := by
  have h := of_decide_eq_true (b2i_n0.mp h)
  rw [hA.1.1] at h
  obtain ⟨i, hi, rfl⟩ := ge0 (Int32.not_lt.mpr h.1)
  have := hO.1.l3
  have := (nI_ltI hi (by omega)).mp h.2
  exact ⟨i, rfl, this, by omega⟩
/-- whether there is such a function, call, graph -/
def isF (A : Ab) (x : Int32) : Bool := decide (0 ≤ x ∧ x < nI (aP A).1.length)
def isC (A : Ab) (x : Int32) : Bool := decide (0 ≤ x ∧ x < nI (aP A).2.length)
def isG (A : Ab) (x : Int32) : Bool := decide (0 ≤ x ∧ x < nI (clo (aP A)).length)
theorem isF_i {A : Ab} (hO : OKA A) {x : Int32} (h : isF A x = true) : ∃ i, x = nI i ∧ i < (aP A).1.length ∧ i < 3 := by
  have h := of_decide_eq_true h
  obtain ⟨i, hi, rfl⟩ := ge0 (Int32.not_lt.mpr h.1)
  have := hO.1.l3
  have := (nI_ltI hi (by omega)).mp h.2
  exact ⟨i, rfl, this, by omega⟩
theorem isC_i {A : Ab} (hO : OKA A) {x : Int32} (h : isC A x = true) : ∃ i, x = nI i ∧ i < (aP A).2.length ∧ i < 12 := by
  have h := of_decide_eq_true h
  obtain ⟨i, hi, rfl⟩ := ge0 (Int32.not_lt.mpr h.1)
  have := hO.1.l12
  have := (nI_ltI hi (by omega)).mp h.2
  exact ⟨i, rfl, this, by omega⟩
theorem clo_w {A : Ab} (hO : OKA A) : WL (clo (aP A)) := clo_ok (okK_P hO.1)
theorem isG_i {A : Ab} (hO : OKA A) {x : Int32} (h : isG A x = true) : ∃ i, x = nI i ∧ i < (clo (aP A)).length ∧ i < 729 := by
  have h := of_decide_eq_true h
  obtain ⟨i, hi, rfl⟩ := ge0 (Int32.not_lt.mpr h.1)
  have := WL_len (clo_w hO)
  have := (nI_ltI hi (by omega)).mp h.2
  exact ⟨i, rfl, this, by omega⟩
def anRule (A : Ab) (x : Int32) : Int32 := selI x [nI (aP A).1.length, nI (aP A).2.length, nI (clo (aP A)).length, nI (cnt (fun g => idleK (ge (clo (aP A)) g).1 (ge (clo (aP A)) g).2.1 (ge (clo (aP A)) g).2.2.1) (clo (aP A)).length), nI (loopC (clo (aP A))), b2i (decide (loopC (clo (aP A)) = 0)), nI (cbN (clo (aP A)) (aP A).1.length), nI (cnt (fun g => !needB (clo (aP A)) g) (clo (aP A)).length)] (-1)
def sX4_rule : SP := fun As f a Q => match As with
  | [.inr (.inr (4, 0, 0)), .inl x] => ∃ A, RepC f a A ∧ OKA A ∧ ∀ f' a', RepC f' a' A → S5 f a f' a' → Q (some (.inl (anRule A x))) f' a'
  | _ => False
def eX4_rule : En := (tX4_rule, [(83, false, 1, sX4_fresh), (90, false, 1, sX0_idleOnes), (97, true, 1, sX4_bit), (101, false, 2, sX0_componentsBelow), (105, false, 1, sX0_neededOnes)], fdX4, [], 0)
theorem eokX4_rule {g : Gm} (hg : GmOK g) : EnvOK g 6 RX4 cX4_rule (some .int) eX4_rule := ⟨okX4_rule, fun _ _ _ _ h => as2_all (P := fun i v => CallOK g 6 RX4 i v.1 v.2.1 v.2.2) (l := eX4_rule.2.1) ⟨callV_ok (t := 4) hg (mX4_fresh hg) kX4_fresh mlX4_83 qX4_fresh.1 qX4_fresh.2 ⟨by decide, by decide⟩ ⟨_, _, rfl⟩ shX4_fresh, callV_ok (t := 0) hg (mX0_idleOnes hg) kX0_idleOnes mlX4_90 qX0_idleOnes.1 qX0_idleOnes.2 ⟨by decide, by decide⟩ ⟨_, _, rfl⟩ shX0_idleOnes, callS_ok hg (mX4_bit hg) kX4_bit mlX4_97 qX4_bit ⟨by decide, by decide⟩, callV_ok (t := 0) hg (mX0_componentsBelow hg) kX0_componentsBelow mlX4_101 qX0_componentsBelow.1 qX0_componentsBelow.2 ⟨by decide, by decide⟩ ⟨_, _, rfl⟩ shX0_componentsBelow, callV_ok (t := 0) hg (mX0_neededOnes hg) kX0_neededOnes mlX4_105 qX0_neededOnes.1 qX0_neededOnes.2 ⟨by decide, by decide⟩ ⟨_, _, rfl⟩ shX0_neededOnes, trivial⟩ h, fdX4_ok, (fun _ _ h => by cases h), rfl⟩
theorem rX4_rule (av : List AV) (f : FF) (a : AA) (post : PT) (h : sX4_rule av f a post) (X : XT) (hX : Clo eX4_rule post X) : X 0 (padL 2 (ent av)) [] f a := by
  unfold sX4_rule at h
  split at h
  · rename_i x
    obtain ⟨A, hA, hO, h⟩ := h
    have hw := clo_w hO
    have h3 := hO.1.l3
    unfold anRule at h
    refine hX [] 90 _ _ _ _ _ ?_
    refine ⟨⟨fun q => ?_, fun q => ?_, fun q => ?_, fun q => ?_, fun q => ?_, fun q => ?_, fun q => ?_, fun q => ?_, trivial⟩, fun q => ?_⟩
    · rw [selI_in 0 (sw q) (Nat.le_of_ble_eq_true rfl)] at h
      exact pI (h f a hA (S5.rf f a)) hA.1.1.symm
    · rw [selI_in 1 (sw q) (Nat.le_of_ble_eq_true rfl)] at h
      exact pI (h f a hA (S5.rf f a)) hA.1.2.1.symm
    · rw [selI_in 2 (sw q) (Nat.le_of_ble_eq_true rfl)] at h
      exact ⟨A, hA, hO, fun f1 a1 hA1 hG hS => pI (h f1 a1 hA1 hS) hG.1.1.symm⟩
    · rw [selI_in 3 (sw q) (Nat.le_of_ble_eq_true rfl)] at h
      exact ⟨A, hA, hO, fun f1 a1 hA1 hG hS => ⟨_, hG.1, hw, h f1 a1 hA1 hS⟩⟩
    · rw [selI_in 4 (sw q) (Nat.le_of_ble_eq_true rfl)] at h
      exact ⟨A, hA, hO, fun f1 a1 hA1 hG hS => pI (h f1 a1 hA1 hS) hG.1.2.1.symm⟩
    · rw [selI_in 5 (sw q) (Nat.le_of_ble_eq_true rfl)] at h
      refine ⟨A, hA, hO, fun f1 a1 hA1 hG hS => ⟨fun d => ?_, fun d => ?_⟩⟩
      · rw [hG.1.2.1] at d
        exact pI (h f1 a1 hA1 hS) (b2i_f (decide_eq_false (fun z => d (by rw [z]; rfl))))
      · rw [hG.1.2.1] at d
        exact pI (h f1 a1 hA1 hS) (b2i_t (decide_eq_true ((i_eq (b := 0) rfl rfl (i31 (loopC_lt hw)) (by decide)).mp d)))
    · rw [selI_in 6 (sw q) (Nat.le_of_ble_eq_true rfl)] at h
      exact ⟨A, hA, hO, fun f1 a1 hA1 hG hS => ⟨_, (aP A).1.length, hG.1, hw, hA1.1.1, h3, h f1 a1 hA1 hS⟩⟩
    · rw [selI_in 7 (sw q) (Nat.le_of_ble_eq_true rfl)] at h
      exact ⟨A, hA, hO, fun f1 a1 hA1 hG hS => ⟨_, hG.1, hw, h f1 a1 hA1 hS⟩⟩
    · rw [selI_out (q.imp id (fun z => by simp only [List.length_cons, List.length_nil]; omega))] at h
      exact h f a hA (S5.rf f a)
  · exact h.elim
theorem shX4_rule : ∀ As f a Q, sX4_rule As f a Q → ∃ i r, As = .inr (.inr (4, i, 0)) :: r := by
  intro As f a Q h
  unfold sX4_rule at h
  split at h
  · exact ⟨_, _, rfl⟩
  · exact h.elim
theorem mX4_rule {g : Gm} (hg : GmOK g) : MetC g yX4_rule cX4_rule 2 (some .int) 6 sX4_rule := by
  refine MetC_of hg eX4_rule (eokX4_rule hg) (by decide +kernel) (fun av f a post h => ?_) rX4_rule
  unfold sX4_rule at h
  split at h
  · exact Nat.le_of_ble_eq_true rfl
  · exact h.elim
def oN (r : Option Nat) : Int32 := match r with
  | none => -4
  | some g => nI g
theorem oN_i {r : Option Nat} (hr : ∀ g, r = some g → g < 1000) : (if fI r < 0 then -4 else fI r) = oN r := by
  cases r with
  | none => rfl
  | some g => exact if_neg (nI_pos (by have := hr g rfl; omega))
def anFun (A : Ab) (x w : Int32) : Int32 := if isF A x then selI w [nI (ar (aP A) x.toNatClampNeg), nI (cnt (fun c => decide (fr (aP A) c = x.toNatClampNeg)) (aP A).2.length), nI (cbN (clo (aP A)) (fcN (clo (aP A)) x.toNatClampNeg)), b2i (firstU (loopOfB (clo (aP A)) x.toNatClampNeg) (clo (aP A)).length 0).isNone, nI (comeN (clo (aP A)) x.toNatClampNeg)] (-1) else -1
def sX4_fun : SP := fun As f a Q => match As with
  | [.inr (.inr (4, 0, 0)), .inl x, .inl w] => ∃ A, RepC f a A ∧ OKA A ∧ ∀ f' a', RepC f' a' A → S5 f a f' a' → Q (some (.inl (anFun A x w))) f' a'
  | _ => False
def eX4_fun : En := (tX4_fun, [(108, false, 2, sX1_hasFunction), (116, false, 2, sX1_callsFrom), (83, false, 1, sX4_fresh), (119, false, 2, sX0_componentOf), (122, false, 2, sX0_firstLoopOf), (97, true, 1, sX4_bit)], fdX4, [], 0)
theorem eokX4_fun {g : Gm} (hg : GmOK g) : EnvOK g 6 RX4 cX4_fun (some .int) eX4_fun := ⟨okX4_fun, fun _ _ _ _ h => as2_all (P := fun i v => CallOK g 6 RX4 i v.1 v.2.1 v.2.2) (l := eX4_fun.2.1) ⟨callV_ok (t := 1) hg (mX1_hasFunction hg) kX1_hasFunction mlX4_108 qX1_hasFunction.1 qX1_hasFunction.2 ⟨by decide, by decide⟩ ⟨_, _, rfl⟩ shX1_hasFunction, callV_ok (t := 1) hg (mX1_callsFrom hg) kX1_callsFrom mlX4_116 qX1_callsFrom.1 qX1_callsFrom.2 ⟨by decide, by decide⟩ ⟨_, _, rfl⟩ shX1_callsFrom, callV_ok (t := 4) hg (mX4_fresh hg) kX4_fresh mlX4_83 qX4_fresh.1 qX4_fresh.2 ⟨by decide, by decide⟩ ⟨_, _, rfl⟩ shX4_fresh, callV_ok (t := 0) hg (mX0_componentOf hg) kX0_componentOf mlX4_119 qX0_componentOf.1 qX0_componentOf.2 ⟨by decide, by decide⟩ ⟨_, _, rfl⟩ shX0_componentOf, callV_ok (t := 0) hg (mX0_firstLoopOf hg) kX0_firstLoopOf mlX4_122 qX0_firstLoopOf.1 qX0_firstLoopOf.2 ⟨by decide, by decide⟩ ⟨_, _, rfl⟩ shX0_firstLoopOf, callS_ok hg (mX4_bit hg) kX4_bit mlX4_97 qX4_bit ⟨by decide, by decide⟩, trivial⟩ h, fdX4_ok, (fun _ _ h => by cases h), rfl⟩
theorem fI_none {r : Option Nat} (hr : ∀ g, r = some g → g < 1000) : (0 ≤ fI r ↔ r.isNone = false) := by
  cases r with
  | none => exact ⟨fun h => absurd h (by decide), fun h => by cases h⟩
  | some g => exact ⟨fun _ => rfl, fun _ => nI_pos' (by have := hr g rfl; omega)⟩
theorem first_lt {p : Nat → Bool} {n : Nat} (hn : n < 1000) : ∀ g, firstU p n 0 = some g → g < 1000 := fun g hg => by have := firstU_le hg; omega
theorem rX4_fun (av : List AV) (f : FF) (a : AA) (post : PT) (h : sX4_fun av f a post) (X : XT) (hX : Clo eX4_fun post X) : X 0 (padL 3 (ent av)) [] f a := by
  unfold sX4_fun at h
  split at h
  · rename_i x w
    obtain ⟨A, hA, hO, h⟩ := h
    have hw := clo_w hO
    have hlen := WL_len hw
    unfold anFun at h
    refine hX [] 90 _ _ _ _ _ ?_
    have eF : b2i (decide (0 ≤ x ∧ x < f 1 0 4)) = b2i (isF A x) := by rw [hA.1.1]; rfl
    refine ⟨fun d => ?_, fun d => ?_⟩
    · rw [eF] at d
      have d := b2i_n0.mp d
      rw [if_pos d] at h
      obtain ⟨i, rfl, hi, hi3⟩ := isF_i hO d
      rw [nI_clamp (show i < 2 ^ 31 by omega)] at h
      refine ⟨⟨fun q => ?_, fun q => ?_, fun q => ?_, fun q => ?_, fun q => ?_, trivial⟩, fun q => ?_⟩
      · rw [selI_in 0 (sw q) (Nat.le_of_ble_eq_true rfl)] at h
        exact ⟨inA 3 rfl rfl hi3 (by decide), pI (h f a hA (S5.rf f a)) (hA.1.ar_i hO.1 hi).symm⟩
      · rw [selI_in 1 (sw q) (Nat.le_of_ble_eq_true rfl)] at h
        exact ⟨aP A, i, hA.1, hO.1, rfl, hi3, h f a hA (S5.rf f a)⟩
      · rw [selI_in 2 (sw q) (Nat.le_of_ble_eq_true rfl)] at h
        exact ⟨A, hA, hO, fun f1 a1 hA1 hG hS => ⟨_, i, hG.1, hw, rfl, hi3, h f1 a1 hA1 hS⟩⟩
      · rw [selI_in 3 (sw q) (Nat.le_of_ble_eq_true rfl)] at h
        have hf := fI_none (first_lt (p := loopOfB (clo (aP A)) i) (n := (clo (aP A)).length) (by omega))
        refine ⟨A, hA, hO, fun f1 a1 hA1 hG hS => ⟨_, i, hG.1, hw, rfl, hi3, fun d => ?_, fun d => ?_⟩⟩
        · exact pI (h f1 a1 hA1 hS) (b2i_f (hf.mp d))
        · refine pI (h f1 a1 hA1 hS) (b2i_t ?_)
          cases hh : (firstU (loopOfB (clo (aP A)) i) (clo (aP A)).length 0).isNone with
          | true => rfl
          | false => exact absurd (hf.mpr hh) d
      · rw [selI_in 4 (sw q) (Nat.le_of_ble_eq_true rfl)] at h
        refine ⟨A, hA, hO, fun f1 a1 hA1 hG hS => ⟨inA 3 rfl rfl hi3 (by decide), pI (h f1 a1 hA1 hS) ?_⟩⟩
        rw [nI_clamp (by omega)]
        exact (hG.1.2.2.2.2 i hi3).symm
      · rw [selI_out (q.imp id (fun z => by simp only [List.length_cons, List.length_nil]; omega))] at h
        exact h f a hA (S5.rf f a)
    · rw [eF] at d
      rw [if_neg (by rw [b2i_e0.mp d]; decide)] at h
      exact h f a hA (S5.rf f a)
  · exact h.elim
theorem shX4_fun : ∀ As f a Q, sX4_fun As f a Q → ∃ i r, As = .inr (.inr (4, i, 0)) :: r := by
  intro As f a Q h
  unfold sX4_fun at h
  split at h
  · exact ⟨_, _, rfl⟩
  · exact h.elim
theorem mX4_fun {g : Gm} (hg : GmOK g) : MetC g yX4_fun cX4_fun 3 (some .int) 6 sX4_fun := by
  refine MetC_of hg eX4_fun (eokX4_fun hg) (by decide +kernel) (fun av f a post h => ?_) rX4_fun
  unfold sX4_fun at h
  split at h
  · exact Nat.le_of_ble_eq_true rfl
  · exact h.elim
def anCall (A : Ab) (x w : Int32) : Int32 := if isC A x then selI w [nI (fr (aP A) x.toNatClampNeg), nI (to (aP A) x.toNatClampNeg), nI (codeN (aP A) x.toNatClampNeg), oN (fnd (clo (aP A)) (kpl (aP A) x.toNatClampNeg))] (-1) else -1
def sX4_call : SP := fun As f a Q => match As with
  | [.inr (.inr (4, 0, 0)), .inl x, .inl w] => ∃ A, RepC f a A ∧ OKA A ∧ ∀ f' a', RepC f' a' A → S5 f a f' a' → Q (some (.inl (anCall A x w))) f' a'
  | _ => False
def eX4_call : En := (tX4_call, [(128, false, 2, sX1_hasCall), (137, false, 2, sX1_bitsOf), (140, true, 1, sX0_codeOf), (83, false, 1, sX4_fresh)], fdX4, [], 0)
theorem eokX4_call {g : Gm} (hg : GmOK g) : EnvOK g 6 RX4 cX4_call (some .int) eX4_call := ⟨okX4_call, fun _ _ _ _ h => as2_all (P := fun i v => CallOK g 6 RX4 i v.1 v.2.1 v.2.2) (l := eX4_call.2.1) ⟨callV_ok (t := 1) hg (mX1_hasCall hg) kX1_hasCall mlX4_128 qX1_hasCall.1 qX1_hasCall.2 ⟨by decide, by decide⟩ ⟨_, _, rfl⟩ shX1_hasCall, callV_ok (t := 1) hg (mX1_bitsOf hg) kX1_bitsOf mlX4_137 qX1_bitsOf.1 qX1_bitsOf.2 ⟨by decide, by decide⟩ ⟨_, _, rfl⟩ shX1_bitsOf, callS_ok hg (mX0_codeOf hg) kX0_codeOf mlX4_140 qX0_codeOf ⟨by decide, by decide⟩, callV_ok (t := 4) hg (mX4_fresh hg) kX4_fresh mlX4_83 qX4_fresh.1 qX4_fresh.2 ⟨by decide, by decide⟩ ⟨_, _, rfl⟩ shX4_fresh, trivial⟩ h, fdX4_ok, (fun _ _ h => by cases h), rfl⟩
theorem rX4_call (av : List AV) (f : FF) (a : AA) (post : PT) (h : sX4_call av f a post) (X : XT) (hX : Clo eX4_call post X) : X 0 (padL 3 (ent av)) [] f a := by
  unfold sX4_call at h
  split at h
  · rename_i x w
    obtain ⟨A, hA, hO, h⟩ := h
    have hw := clo_w hO
    unfold anCall at h
    refine hX [] 90 _ _ _ _ _ ?_
    have eF : b2i (decide (0 ≤ x ∧ x < f 1 0 5)) = b2i (isC A x) := by rw [hA.1.2.1]; rfl
    refine ⟨fun d => ?_, fun d => ?_⟩
    · rw [eF] at d
      have d := b2i_n0.mp d
      rw [if_pos d] at h
      obtain ⟨i, rfl, hi, hi3⟩ := isC_i hO d
      rw [nI_clamp (show i < 2 ^ 31 by omega)] at h
      refine ⟨⟨fun q => ?_, fun q => ?_, fun q => ?_, fun q => ?_, trivial⟩, fun q => ?_⟩
      · rw [selI_in 0 (sw q) (Nat.le_of_ble_eq_true rfl)] at h
        exact ⟨inA 12 rfl rfl hi3 (by decide), pI (h f a hA (S5.rf f a)) (hA.1.fr_i hO.1 hi).symm⟩
      · rw [selI_in 1 (sw q) (Nat.le_of_ble_eq_true rfl)] at h
        exact ⟨inA 12 rfl rfl hi3 (by decide), pI (h f a hA (S5.rf f a)) (hA.1.to_i hO.1 hi).symm⟩
      · rw [selI_in 2 (sw q) (Nat.le_of_ble_eq_true rfl)] at h
        exact ⟨aP A, i, hA.1, hO.1, rfl, hi, codeN (aP A) i, codeN_lt _ _, rfl, h f a hA (S5.rf f a)⟩
      · rw [selI_in 3 (sw q) (Nat.le_of_ble_eq_true rfl)] at h
        refine ⟨A, hA, hO, fun f1 a1 hA1 hG hS => ⟨inA 12 rfl rfl hi3 (by decide), pI (h f1 a1 hA1 hS) ?_⟩⟩
        obtain ⟨g, h1, h2⟩ := hG.2 i hi
        rw [nI_clamp (by omega), h2, h1]
        rfl
      · rw [selI_out (q.imp id (fun z => by simp only [List.length_cons, List.length_nil]; omega))] at h
        exact h f a hA (S5.rf f a)
    · rw [eF] at d
      rw [if_neg (by rw [b2i_e0.mp d]; decide)] at h
      exact h f a hA (S5.rf f a)
  · exact h.elim
theorem shX4_call : ∀ As f a Q, sX4_call As f a Q → ∃ i r, As = .inr (.inr (4, i, 0)) :: r := by
  intro As f a Q h
  unfold sX4_call at h
  split at h
  · exact ⟨_, _, rfl⟩
  · exact h.elim
theorem mX4_call {g : Gm} (hg : GmOK g) : MetC g yX4_call cX4_call 3 (some .int) 6 sX4_call := by
  refine MetC_of hg eX4_call (eokX4_call hg) (by decide +kernel) (fun av f a post h => ?_) rX4_call
  unfold sX4_call at h
  split at h
  · exact Nat.le_of_ble_eq_true rfl
  · exact h.elim
def anArg (A : Ab) (x k w : Int32) : Int32 := if hasA (aP A) x k then selI w [nI (ag (aP A) x.toNatClampNeg k.toNatClampNeg / 100), (if ag (aP A) x.toNatClampNeg k.toNatClampNeg / 100 = 0 ∨ ag (aP A) x.toNatClampNeg k.toNatClampNeg / 100 = 4 then -4 else nI (ag (aP A) x.toNatClampNeg k.toNatClampNeg / 10 % 10)), nI (ag (aP A) x.toNatClampNeg k.toNatClampNeg % 10)] (-1) else -1
def sX4_argument : SP := fun As f a Q => match As with
  | [.inr (.inr (4, 0, 0)), .inl x, .inl k, .inl w] => ∃ A, RepC f a A ∧ OKA A ∧ ∀ f' a', RepC f' a' A → S5 f a f' a' → Q (some (.inl (anArg A x k w))) f' a'
  | _ => False
def eX4_argument : En := (tX4_argument, [(146, false, 3, sX1_hasArgument), (150, false, 3, sX1_argumentAt), (154, true, 1, sX4_kindOf), (157, true, 1, sX4_valueOf), (160, true, 1, sX4_numberOf)], fdX4, [], 0)
theorem eokX4_argument {g : Gm} (hg : GmOK g) : EnvOK g 2 RX4 cX4_argument (some .int) eX4_argument := ⟨okX4_argument, fun _ _ _ _ h => as2_all (P := fun i v => CallOK g 2 RX4 i v.1 v.2.1 v.2.2) (l := eX4_argument.2.1) ⟨callV_ok (t := 1) hg (mX1_hasArgument hg) kX1_hasArgument mlX4_146 qX1_hasArgument.1 qX1_hasArgument.2 ⟨by decide, by decide⟩ ⟨_, _, rfl⟩ shX1_hasArgument, callV_ok (t := 1) hg (mX1_argumentAt hg) kX1_argumentAt mlX4_150 qX1_argumentAt.1 qX1_argumentAt.2 ⟨by decide, by decide⟩ ⟨_, _, rfl⟩ shX1_argumentAt, callS_ok hg (mX4_kindOf hg) kX4_kindOf mlX4_154 qX4_kindOf ⟨by decide, by decide⟩, callS_ok hg (mX4_valueOf hg) kX4_valueOf mlX4_157 qX4_valueOf ⟨by decide, by decide⟩, callS_ok hg (mX4_numberOf hg) kX4_numberOf mlX4_160 qX4_numberOf ⟨by decide, by decide⟩, trivial⟩ h, fdX4_ok, (fun _ _ h => by cases h), rfl⟩
theorem rX4_argument (av : List AV) (f : FF) (a : AA) (post : PT) (h : sX4_argument av f a post) (X : XT) (hX : Clo eX4_argument post X) : X 0 (padL 6 (ent av)) [] f a := by
  unfold sX4_argument at h
  split at h
  · rename_i x k w
    obtain ⟨A, hA, hO, h⟩ := h
    have h := h f a hA (S5.rf f a)
    have h12 := hO.1.l12
    unfold anArg at h
    refine hX [] 90 _ _ _ _ _ ?_
    refine ⟨aP A, hA.1, hO.1, fun d => ?_, fun d => ?_⟩
    · have d := b2i_n0.mp d
      rw [if_pos d] at h
      obtain ⟨n, m, rfl, hn, rfl, hm⟩ := hasA_spec hO.1 d
      have hat := hO.1.ar_to hn
      rw [nI_clamp (show n < 2 ^ 31 by omega), nI_clamp (show m < 2 ^ 31 by omega)] at h
      have hag := hO.1.ag_lt (k := m) hn
      have e0 := hA.1.arg hn (show m < 2 by omega)
      refine ⟨n, m, rfl, rfl, by omega, ag (aP A) n m, by omega, e0, ⟨fun q => ?_, fun q => ?_, fun q => ?_, trivial⟩, fun q => ?_⟩
      · rw [selI_in 0 (sw q) (Nat.le_of_ble_eq_true rfl)] at h
        exact h
      · rw [selI_in 1 (sw q) (Nat.le_of_ble_eq_true rfl)] at h
        refine ⟨fun d => ?_, fun d => ⟨fun d2 => ?_, fun d2 => ?_⟩⟩
        · have d := (i_eq (b := 0) rfl rfl (show ag (aP A) n m / 100 < 2 ^ 31 by omega) (by decide)).mp d
          exact pI h (if_pos (Or.inl d))
        · have d : ¬ ag (aP A) n m / 100 = 0 := fun z => d (by rw [z]; rfl)
          have d2 : ¬ ag (aP A) n m / 100 = 4 := fun z => d2 (by rw [z]; rfl)
          exact ⟨ag (aP A) n m, by omega, e0, pI h (if_neg (fun z => z.elim d d2))⟩
        · have d2 := (i_eq (b := 4) rfl rfl (show ag (aP A) n m / 100 < 2 ^ 31 by omega) (by decide)).mp d2
          exact pI h (if_pos (Or.inr d2))
      · rw [selI_in 2 (sw q) (Nat.le_of_ble_eq_true rfl)] at h
        exact ⟨ag (aP A) n m, by omega, e0, h⟩
      · rw [selI_out (q.imp id (fun z => by simp only [List.length_cons, List.length_nil]; omega))] at h
        exact h
    · rw [if_neg (by rw [b2i_e0.mp d]; decide)] at h
      exact h
  · exact h.elim
theorem shX4_argument : ∀ As f a Q, sX4_argument As f a Q → ∃ i r, As = .inr (.inr (4, i, 0)) :: r := by
  intro As f a Q h
  unfold sX4_argument at h
  split at h
  · exact ⟨_, _, rfl⟩
  · exact h.elim
theorem mX4_argument {g : Gm} (hg : GmOK g) : MetC g yX4_argument cX4_argument 6 (some .int) 2 sX4_argument := by
  refine MetC_of hg eX4_argument (eokX4_argument hg) (by decide +kernel) (fun av f a post h => ?_) rX4_argument
  unfold sX4_argument at h
  split at h
  · exact Nat.le_of_ble_eq_true rfl
  · exact h.elim
def anGraph (A : Ab) (x w : Int32) : Int32 := if isG A x then (fun (e : Gr) => selI w [nI e.1, nI e.2.1, nI e.2.2.1, nI e.2.2.2.2.2.1, b2i (idleK e.1 e.2.1 e.2.2.1), (if e.1 = e.2.1 then nI (fallN e.2.2.1) else -4), b2i (loopE e), b2i (needB (clo (aP A)) x.toNatClampNeg)] (-1)) (ge (clo (aP A)) x.toNatClampNeg) else -1
def sX4_graph : SP := fun As f a Q => match As with
  | [.inr (.inr (4, 0, 0)), .inl x, .inl w] => ∃ A, RepC f a A ∧ OKA A ∧ ∀ f' a', RepC f' a' A → S5 f a f' a' → Q (some (.inl (anGraph A x w))) f' a'
  | _ => False
def eX4_graph : En := (tX4_graph, [(83, false, 1, sX4_fresh), (163, false, 2, sX0_has), (166, false, 2, sX0_fromOf), (169, false, 2, sX0_toOf), (140, true, 1, sX0_codeOf), (178, false, 2, sX0_isIdle), (97, true, 1, sX4_bit), (181, false, 2, sX0_fallsIn), (184, false, 2, sX0_isLoop), (187, false, 2, sX0_isNeedless)], fdX4, [], 0)
theorem eokX4_graph {g : Gm} (hg : GmOK g) : EnvOK g 6 RX4 cX4_graph (some .int) eX4_graph := ⟨okX4_graph, fun _ _ _ _ h => as2_all (P := fun i v => CallOK g 6 RX4 i v.1 v.2.1 v.2.2) (l := eX4_graph.2.1) ⟨callV_ok (t := 4) hg (mX4_fresh hg) kX4_fresh mlX4_83 qX4_fresh.1 qX4_fresh.2 ⟨by decide, by decide⟩ ⟨_, _, rfl⟩ shX4_fresh, callV_ok (t := 0) hg (mX0_has hg) kX0_has mlX4_163 qX0_has.1 qX0_has.2 ⟨by decide, by decide⟩ ⟨_, _, rfl⟩ shX0_has, callV_ok (t := 0) hg (mX0_fromOf hg) kX0_fromOf mlX4_166 qX0_fromOf.1 qX0_fromOf.2 ⟨by decide, by decide⟩ ⟨_, _, rfl⟩ shX0_fromOf, callV_ok (t := 0) hg (mX0_toOf hg) kX0_toOf mlX4_169 qX0_toOf.1 qX0_toOf.2 ⟨by decide, by decide⟩ ⟨_, _, rfl⟩ shX0_toOf, callS_ok hg (mX0_codeOf hg) kX0_codeOf mlX4_140 qX0_codeOf ⟨by decide, by decide⟩, callV_ok (t := 0) hg (mX0_isIdle hg) kX0_isIdle mlX4_178 qX0_isIdle.1 qX0_isIdle.2 ⟨by decide, by decide⟩ ⟨_, _, rfl⟩ shX0_isIdle, callS_ok hg (mX4_bit hg) kX4_bit mlX4_97 qX4_bit ⟨by decide, by decide⟩, callV_ok (t := 0) hg (mX0_fallsIn hg) kX0_fallsIn mlX4_181 qX0_fallsIn.1 qX0_fallsIn.2 ⟨by decide, by decide⟩ ⟨_, _, rfl⟩ shX0_fallsIn, callV_ok (t := 0) hg (mX0_isLoop hg) kX0_isLoop mlX4_184 qX0_isLoop.1 qX0_isLoop.2 ⟨by decide, by decide⟩ ⟨_, _, rfl⟩ shX0_isLoop, callV_ok (t := 0) hg (mX0_isNeedless hg) kX0_isNeedless mlX4_187 qX0_isNeedless.1 qX0_isNeedless.2 ⟨by decide, by decide⟩ ⟨_, _, rfl⟩ shX0_isNeedless, trivial⟩ h, fdX4_ok, (fun _ _ h => by cases h), rfl⟩
theorem rX4_graph (av : List AV) (f : FF) (a : AA) (post : PT) (h : sX4_graph av f a post) (X : XT) (hX : Clo eX4_graph post X) : X 0 (padL 4 (ent av)) [] f a := by
  unfold sX4_graph at h
  split at h
  · rename_i x w
    obtain ⟨A, hA, hO, h⟩ := h
    have hw := clo_w hO
    unfold anGraph at h
    dsimp only at h
    refine hX [] 90 _ _ _ _ _ ?_
    refine ⟨A, hA, hO, fun f1 a1 hA1 hG hS => ?_⟩
    have h := h f1 a1 hA1 hS
    have eF : b2i (decide (0 ≤ x ∧ x < f1 0 0 4)) = b2i (isG A x) := by rw [hG.1.1]; rfl
    refine ⟨fun d => ?_, fun d => ?_⟩
    · rw [eF] at d
      have d := b2i_n0.mp d
      rw [if_pos d] at h
      obtain ⟨g, rfl, hg, hg3⟩ := isG_i hO d
      rw [nI_clamp (show g < 2 ^ 31 by omega)] at h
      have he := hw.1 g hg
      have hE := hG.1.2.2.1 g hg
      refine ⟨⟨fun q => ?_, fun q => ?_, fun q => ?_, fun q => ?_, fun q => ?_, fun q => ?_, fun q => ?_, fun q => ?_, trivial⟩, fun q => ?_⟩
      · rw [selI_in 0 (sw q) (Nat.le_of_ble_eq_true rfl)] at h
        exact ⟨g, _, _, rfl, hg3, hE.2.1, he.1, he.2.1, h⟩
      · rw [selI_in 1 (sw q) (Nat.le_of_ble_eq_true rfl)] at h
        exact ⟨g, _, _, rfl, hg3, hE.2.1, he.1, he.2.1, h⟩
      · rw [selI_in 2 (sw q) (Nat.le_of_ble_eq_true rfl)] at h
        exact ⟨inA 729 rfl rfl hg3 (by decide), _, he.2.2.1, by rw [nI_clamp (by omega)]; exact hE.1, h⟩
      · rw [selI_in 3 (sw q) (Nat.le_of_ble_eq_true rfl)] at h
        exact ⟨inA 729 rfl rfl hg3 (by decide), pI h (by rw [nI_clamp (by omega)]; exact hE.2.2.2.2.1.symm)⟩
      · rw [selI_in 4 (sw q) (Nat.le_of_ble_eq_true rfl)] at h
        exact ⟨g, _, _, _, rfl, hg3, hE.2.1, he.1, he.2.1, hE.1, he.2.2.1, pI h (b2i_b _).symm⟩
      · rw [selI_in 5 (sw q) (Nat.le_of_ble_eq_true rfl)] at h
        refine ⟨g, _, _, rfl, hg3, hE.2.1, he.1, he.2.1, g, _, _, rfl, hg3, hE.2.1, he.1, he.2.1, fun d => ?_, fun d => ?_⟩
        · exact pI h (if_neg (fun z => d (by rw [z])))
        · have d := (nI_eq (by have := he.1; omega) (by have := he.2.1; omega)).mp d
          exact ⟨g, _, rfl, hg3, hE.1, he.2.2.1, pI h (if_pos d)⟩
      · rw [selI_in 6 (sw q) (Nat.le_of_ble_eq_true rfl)] at h
        exact ⟨g, _, _, _, rfl, hg3, hE.2.1, he.1, he.2.1, hE.1, he.2.2.1, pI h (b2i_b _).symm⟩
      · rw [selI_in 7 (sw q) (Nat.le_of_ble_eq_true rfl)] at h
        exact ⟨_, g, hG.1, hw, rfl, hg, pI h (b2i_b _).symm⟩
      · rw [selI_out (q.imp id (fun z => by simp only [List.length_cons, List.length_nil]; omega))] at h
        exact h
    · rw [eF] at d
      rw [if_neg (by rw [b2i_e0.mp d]; decide)] at h
      exact h
  · exact h.elim
theorem shX4_graph : ∀ As f a Q, sX4_graph As f a Q → ∃ i r, As = .inr (.inr (4, i, 0)) :: r := by
  intro As f a Q h
  unfold sX4_graph at h
  split at h
  · exact ⟨_, _, rfl⟩
  · exact h.elim
theorem mX4_graph {g : Gm} (hg : GmOK g) : MetC g yX4_graph cX4_graph 4 (some .int) 6 sX4_graph := by
  refine MetC_of hg eX4_graph (eokX4_graph hg) (by decide +kernel) (fun av f a post h => ?_) rX4_graph
  unfold sX4_graph at h
  split at h
  · exact Nat.le_of_ble_eq_true rfl
  · exact h.elim
