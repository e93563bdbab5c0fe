/-! constants; runs -/
theorem cst_int {g : Gm} {own : String} {idx : Nat} {v : Int32} (h : Cond.constant own idx v ∈ WS) : CstOK g own idx (.inl v) := by
  intro p e R s m args below meth c cc Qg H locs ls pc len rest i hx hb hown hts hG hS hd hl hi k
  rcases hi with rfl | rfl
  · have hl : len = 2 := hl
    subst hl
    exact lv_ldc hx hb hown (hts _ h) hd k
  · have hl : len = 3 := hl
    subst hl
    exact lv_ldcw hx hb hown (hts _ h) hd k
theorem cst_long {g : Gm} {own : String} {idx : Nat} {v : Int64} (h : Cond.constantLong own idx v ∈ WS) : CstOK g own idx (.inr (.inl v)) := by
  intro p e R s m args below meth c cc Qg H locs ls pc len rest i hx hb hown hts hG hS hd hl hi k
  have hi : i = .ldc2_w idx := hi
  subst hi
  have hl : len = 3 := hl
  subst hl
  exact lv_ldc2 hx hb hown (hts _ h) hd k
theorem cst_str {g : Gm} (hg : GmOK g) (i : Nat) (hi : i < 4) : CstOK g RX3 (strI i) (.inr (.inr (9, i, 0))) := by
  intro p e R s m args below meth c cc Qg H locs ls pc len rest j hx hb hown hts hG hS hd hl hj k
  have hj : j = .ldc (strI i) := hj
  subst hj
  have hl : len = 2 := hl
  subst hl
  exact va_ldcS hx hb hown ((hg.2.2.2.2 s hG).2.2.2.1 i hi) hd k
theorem cstX4_237 {g : Gm} : CstOK g RX4 237 (.inl 1103515245) ∧ vld (.inl 1103515245) := ⟨cst_int (inWS 644 (by decide +kernel) rfl), trivial⟩
theorem cstX5_262 {g : Gm} : CstOK g RX5 262 (.inl 1103515245) ∧ vld (.inl 1103515245) := ⟨cst_int (inWS 1074 (by decide +kernel) rfl), trivial⟩
theorem cstX5_101 {g : Gm} : CstOK g RX5 101 (.inr (.inl 48)) ∧ vld (.inr (.inl 48)) := ⟨cst_long (inWS 835 (by decide +kernel) rfl), trivial⟩
theorem cstX5_103 {g : Gm} : CstOK g RX5 103 (.inr (.inl 57)) ∧ vld (.inr (.inl 57)) := ⟨cst_long (inWS 836 (by decide +kernel) rfl), trivial⟩
theorem cstX5_226 {g : Gm} : CstOK g RX5 226 (.inr (.inl 3)) ∧ vld (.inr (.inl 3)) := ⟨cst_long (inWS 982 (by decide +kernel) rfl), trivial⟩
theorem cstX5_231 {g : Gm} : CstOK g RX5 231 (.inr (.inl 2)) ∧ vld (.inr (.inl 2)) := ⟨cst_long (inWS 991 (by decide +kernel) rfl), trivial⟩
theorem cstX5_236 {g : Gm} : CstOK g RX5 236 (.inr (.inl 80)) ∧ vld (.inr (.inl 80)) := ⟨cst_long (inWS 1008 (by decide +kernel) rfl), trivial⟩
theorem cstX5_238 {g : Gm} : CstOK g RX5 238 (.inr (.inl 499)) ∧ vld (.inr (.inl 499)) := ⟨cst_long (inWS 1036 (by decide +kernel) rfl), trivial⟩
theorem cstX5_257 {g : Gm} : CstOK g RX5 257 (.inr (.inl 99)) ∧ vld (.inr (.inl 99)) := ⟨cst_long (inWS 1065 (by decide +kernel) rfl), trivial⟩
theorem cstX5_272 {g : Gm} : CstOK g RX5 272 (.inr (.inl 13)) ∧ vld (.inr (.inl 13)) := ⟨cst_long (inWS 1106 (by decide +kernel) rfl), trivial⟩
theorem cstX5_69 {g : Gm} : CstOK g RX5 69 (.inr (.inl 127)) ∧ vld (.inr (.inl 127)) := ⟨cst_long (inWS 813 (by decide +kernel) rfl), trivial⟩
theorem cstX5_97 {g : Gm} : CstOK g RX5 97 (.inr (.inl 97)) ∧ vld (.inr (.inl 97)) := ⟨cst_long (inWS 833 (by decide +kernel) rfl), trivial⟩
theorem cstX5_99 {g : Gm} : CstOK g RX5 99 (.inr (.inl 122)) ∧ vld (.inr (.inl 122)) := ⟨cst_long (inWS 834 (by decide +kernel) rfl), trivial⟩
theorem cstX3_28 {g : Gm} (hg : GmOK g) : CstOK g RX3 28 (.inr (.inr (9, 0, 0))) ∧ vld (.inr (.inr (9, 0, 0))) := ⟨cst_str hg 0 (by decide), Or.inr ⟨rfl, by decide, rfl⟩⟩
theorem cstX3_38 {g : Gm} (hg : GmOK g) : CstOK g RX3 38 (.inr (.inr (9, 1, 0))) ∧ vld (.inr (.inr (9, 1, 0))) := ⟨cst_str hg 1 (by decide), Or.inr ⟨rfl, by decide, rfl⟩⟩
theorem cstX3_92 {g : Gm} (hg : GmOK g) : CstOK g RX3 92 (.inr (.inr (9, 2, 0))) ∧ vld (.inr (.inr (9, 2, 0))) := ⟨cst_str hg 2 (by decide), Or.inr ⟨rfl, by decide, rfl⟩⟩
theorem cstX3_94 {g : Gm} (hg : GmOK g) : CstOK g RX3 94 (.inr (.inr (9, 3, 0))) ∧ vld (.inr (.inr (9, 3, 0))) := ⟨cst_str hg 3 (by decide), Or.inr ⟨rfl, by decide, rfl⟩⟩
/-! the calls that are made -/
def cntU (p : Nat → Bool) : Nat → Nat → Nat
  | 0, _ => 0
  | d + 1, i => (if p i then 1 else 0) + cntU p d (i + 1)
theorem cnt_U (p : Nat → Bool) : ∀ d i, cnt p (i + d) = cnt p i + cntU p d i
  | 0, i => rfl
  | d + 1, i => by
    rw [show i + (d + 1) = (i + 1) + d by omega, cnt_U p d (i + 1), cnt, cntU]
    omega
theorem nthU_ok (p : Nat → Bool) : ∀ d i k, k < cntU p d i → nthU p d i k < i + d ∧ p (nthU p d i k) = true
  | 0, i, k, h => absurd h (Nat.not_lt_zero k)
  | d + 1, i, k, h => by
    unfold nthU
    unfold cntU at h
    by_cases hp : p i = true
    · rw [if_pos hp] at h
      rw [if_pos hp]
      by_cases hk : k = 0
      · rw [if_pos hk]
        exact ⟨by omega, hp⟩
      · rw [if_neg hk]
        have := nthU_ok p d (i + 1) (k - 1) (by omega)
        exact ⟨by omega, this.2⟩
    · rw [if_neg hp] at h
      rw [if_neg hp]
      have := nthU_ok p d (i + 1) k (by omega)
      exact ⟨by omega, this.2⟩
theorem nth_ok {p : Nat → Bool} {n k : Nat} (h : k < cnt p n) : nthU p n 0 k < n ∧ p (nthU p n 0 k) = true := by
  have h1 := cnt_U p n 0
  rw [Nat.zero_add] at h1
  have h2 := nthU_ok p n 0 k (by rw [h1] at h; simpa [cnt] using h)
  rw [Nat.zero_add] at h2
  exact h2
def gotI (x : Int32) : Int32 := (x.toUInt32 >>> ((16 : Int32).toUInt32 &&& Int32.toUInt32 31)).toInt32 &&& 32767
theorem gotI_n (x : Int32) : ∃ j, j < 32768 ∧ gotI x = nI j := by
  obtain ⟨j, hj, h⟩ := pk_andE ((x.toUInt32 >>> ((16 : Int32).toUInt32 &&& Int32.toUInt32 31)).toInt32) (m := 32767) 15 (by decide)
  exact ⟨j, hj, h⟩
/-- from function n with values va, vb by a seed: how many calls, of at most d more -/
def rnU (P : Pg) : Nat → Nat → Nat → Nat → Int32 → Nat → Int32
  | 0, _, _, _, _, _ => -4
  | d + 1, n, va, vb, s, made => if cnt (mdB P n va vb) P.2.length = 0 then nI made else
      (fun (s1 : Int32) => (fun (c : Nat) => rnU P d (to P c) (worthN (ag P c 0) va vb) (worthN (ag P c 1) va vb) s1 (made + 1)) (nthU (mdB P n va vb) P.2.length 0 ((gotI s1).toNatClampNeg % cnt (mdB P n va vb) P.2.length))) (s * 1103515245 + 12345)
def okN (A : Ab) (n x y : Int32) : Bool := isF A n && (decide (0 ≤ x ∧ x ≤ 99) && (decide (0 ≤ y ∧ y ≤ 99) && (!(decide (ar (aP A) n.toNatClampNeg = 1)) || decide (y = 0))))
def anRun (A : Ab) (n x y s : Int32) : Int32 := if okN A n x y then rnU (aP A) 200 n.toNatClampNeg x.toNatClampNeg y.toNatClampNeg s 0 else -1
def sX4_run : SP := fun As f a Q => match As with
  | [.inr (.inr (4, 0, 0)), .inl n, .inl x, .inl y, .inl s] => ∃ A, RepC f a A ∧ OKA A ∧ ∀ f' a', RepC f' a' A → S5 f a f' a' → Q (some (.inl (anRun A n x y s))) f' a'
  | _ => False
def eX4_run : En := (tX4_run, [(108, false, 2, sX1_hasFunction), (234, false, 4, sX1_callsMade), (238, false, 5, sX1_callMade), (242, false, 5, sX1_worth)], fdX4, [(237, .inl 1103515245)], 0)
theorem eokX4_run {g : Gm} (hg : GmOK g) : EnvOK g 3 RX4 cX4_run (some .int) eX4_run := ⟨okX4_run, fun _ _ _ _ h => as2_all (P := fun i v => CallOK g 3 RX4 i v.1 v.2.1 v.2.2) (l := eX4_run.2.1) ⟨callV_ok (t := 1) hg (mX1_hasFunction hg) kX1_hasFunction mlX4_108 qX1_hasFunction.1 qX1_hasFunction.2 ⟨by decide, by decide⟩ ⟨_, _, rfl⟩ shX1_hasFunction, callV_ok (t := 1) hg (mX1_callsMade hg) kX1_callsMade mlX4_234 qX1_callsMade.1 qX1_callsMade.2 ⟨by decide, by decide⟩ ⟨_, _, rfl⟩ shX1_callsMade, callV_ok (t := 1) hg (mX1_callMade hg) kX1_callMade mlX4_238 qX1_callMade.1 qX1_callMade.2 ⟨by decide, by decide⟩ ⟨_, _, rfl⟩ shX1_callMade, callV_ok (t := 1) hg (mX1_worth hg) kX1_worth mlX4_242 qX1_worth.1 qX1_worth.2 ⟨by decide, by decide⟩ ⟨_, _, rfl⟩ shX1_worth, trivial⟩ h, fdX4_ok, fun _ _ h => as2_all (P := fun i v => CstOK g RX4 i v ∧ vld v) (l := eX4_run.2.2.2.1) ⟨cstX4_237, trivial⟩ h, rfl⟩
theorem okM_v {x va vb : Nat} (h : okM x va vb = true) (h1 : x / 100 = 1) : x % 10 ≤ valN x va vb := by
  unfold okM at h
  simp [h1] at h
  exact h
theorem okA_2 {n x : Nat} (h : okA n x = true) (h2 : x / 100 = 2) : 0 < x % 10 := by
  unfold okA at h
  simp [h2] at h
  omega
theorem worth_lt {x va vb : Nat} (hx : x < 500) (ha : va < 1000) (hb : vb < 1000) : worthN x va vb < 1000 := by
  have hv : valN x va vb < 1000 := by unfold valN; split <;> omega
  unfold worthN
  split
  · omega
  · split
    · have := Nat.div_le_self (valN x va vb) (x % 10); omega
    · split
      · omega
      · split
        · omega
        · omega
theorem allK_at {p : Nat → Bool} : ∀ {n k : Nat}, allK p n = true → k < n → p k = true
  | n + 1, k, h, hk => by
    unfold allK at h
    simp only [Bool.and_eq_true] at h
    rcases (show k < n ∨ k = n by omega) with z | rfl
    · exact allK_at h.1 z
    · exact h.2
/-- what worth() asks of an argument of a call that is made -/
theorem wrt {P : Pg} (hW : WF P) {c n va vb k : Nat} (hc : c < P.2.length) (hm : mdB P n va vb c = true) (hk : k < 2) : (ag P c k / 100 = 1 → ag P c k % 10 ≤ valN (ag P c k) va vb) ∧ (ag P c k / 100 = 2 → 0 < ag P c k % 10) := by
  unfold mdB madeB at hm
  simp only [Bool.and_eq_true] at hm
  have hat := hW.ar_to hc
  have hokc := hW.2.2.2 c hc
  by_cases hlt : k < ar P (to P c)
  · have h1 := allK_at hm.2 hlt
    refine ⟨fun h => okM_v h1 h, fun h => ?_⟩
    rcases (show k = 0 ∨ k = 1 by omega) with rfl | rfl
    · exact okA_2 hokc.2.2.1 h
    · have h2 := hokc.2.2.2
      have ea : ar P (cl P c).2.1 = ar P (to P c) := rfl
      rw [ea, if_pos (by omega)] at h2
      exact okA_2 h2 h
  · have hk1 : k = 1 := by omega
    have h2 := hokc.2.2.2
    have ea : ar P (cl P c).2.1 = ar P (to P c) := rfl
    rw [ea, if_neg (by omega)] at h2
    subst hk1
    have h0 : ag P c 1 = 0 := h2
    rw [h0]
    exact ⟨fun h => by omega, fun h => by omega⟩
theorem rX4_run (av : List AV) (f : FF) (a : AA) (post : PT) (h : sX4_run av f a post) (X : XT) (hX : Clo eX4_run post X) : X 0 (padL 13 (ent av)) [] f a := by
  unfold sX4_run at h
  split at h
  · rename_i n x y s
    obtain ⟨A, hA, hO, h⟩ := h
    have h := h f a hA (S5.rf f a)
    have h12 := hO.1.l12
    have h3 := hO.1.l3
    unfold anRun at h
    have bad : okN A n x y = false → post (some (.inl (-1))) f a := by
      intro hb
      simp only [hb, Bool.false_eq_true, if_false] at h
      exact h
    refine hX [52, 68] 90 _ _ _ _ _ ?_
    have eF : b2i (decide (0 ≤ n ∧ n < f 1 0 4)) = b2i (isF A n) := by rw [hA.1.1]; rfl
    refine ⟨fun d => ?_, fun d => ⟨fun d1 => ?_, fun d1 => ⟨fun d2 => ?_, fun d2 => ⟨fun d3 => ?_, fun d3 => ⟨fun d4 => ?_, fun d4 => ?_⟩⟩⟩⟩⟩
    · rw [eF] at d
      exact bad (by simp only [okN, b2i_e0.mp d, Bool.false_and])
    · exact bad (by simp only [okN, decide_eq_false (fun (z : 0 ≤ x ∧ x ≤ 99) => absurd z.1 (Int32.not_le.mpr d1)), Bool.false_and, Bool.and_false])
    · exact bad (by simp only [okN, decide_eq_false (fun (z : 0 ≤ x ∧ x ≤ 99) => absurd z.2 (Int32.not_le.mpr d2)), Bool.false_and, Bool.and_false])
    · exact bad (by simp only [okN, decide_eq_false (fun (z : 0 ≤ y ∧ y ≤ 99) => absurd z.1 (Int32.not_le.mpr d3)), Bool.false_and, Bool.and_false])
    · rw [eF] at d
      have d := b2i_n0.mp d
      obtain ⟨i, rfl, hi, hi3⟩ := isF_i hO d
      obtain ⟨va, hva, rfl⟩ := ge0 d1
      obtain ⟨vb, hvb, rfl⟩ := ge0 d3
      have hva9 : va ≤ 99 := (nI_leI (b := 99) hva (by decide)).mp (Int32.not_lt.mp d2)
      have hvb9 : vb ≤ 99 := (nI_leI (b := 99) hvb (by decide)).mp d4
      have ci : (nI i).toNatClampNeg = i := nI_clamp (by omega)
      have hai := hO.1.2.2.1 i hi
      refine ⟨inA 3 rfl rfl hi3 (by decide), ?_⟩
      have k52 : (ar (aP A) i = 1 → vb = 0) → X 52 [some (.inr (.inr (4, 0, 0))), some (.inl (nI i)), some (.inl (nI va)), some (.inl (nI vb)), some (.inl s), none, none, none, none, none, none, none, none] [] f a := by
        intro hcd
        have hok : okN A (nI i) (nI va) (nI vb) = true := by
          simp only [okN, d, decide_eq_true (And.intro (Int32.not_lt.mp d1) (Int32.not_lt.mp d2)), decide_eq_true (And.intro (Int32.not_lt.mp d3) d4), Bool.true_and, ci]
          by_cases ha1 : ar (aP A) i = 1
          · rw [hcd ha1]; simp; exact Or.inr rfl
          · simp [ha1]
        simp only [hok, if_true, ci, nI_clamp hva, nI_clamp hvb] at h
        refine hX [68] 90 _ _ _ _ _ ?_
        have key : ∀ (e at_ wa wb : Nat) (sd : Int32) (made : Nat) (z10 z11 z12 : Option AV), made + e = 200 → at_ < (aP A).1.length → wa < 1000 → wb < 1000 → post (some (.inl (rnU (aP A) e at_ wa wb sd made))) f a → X 68 [some (.inr (.inr (4, 0, 0))), some (.inl (nI i)), some (.inl (nI va)), some (.inl (nI vb)), some (.inl s), some (.inl (nI at_)), some (.inl (nI wa)), some (.inl (nI wb)), some (.inl sd), some (.inl (nI made)), z10, z11, z12] [] f a := by
          intro e
          induction e with
          | zero =>
            intro at_ wa wb sd made z10 z11 z12 hm hat hwa hwb h
            refine hX [68] 90 _ _ _ _ _ ?_
            refine ⟨fun q => h, fun q => absurd (nI_le (a := 200) (b := made) (by omega) (by omega)) q⟩
          | succ e ih =>
            intro at_ wa wb sd made z10 z11 z12 hm hat hwa hwb h
            have hcn : cnt (mdB (aP A) at_ wa wb) (aP A).2.length ≤ 12 := Nat.le_trans (cnt_le _ _) h12
            refine hX [68] 90 _ _ _ _ _ ?_
            refine ⟨fun q => absurd q (nI_ge (b := 200) (by omega) (by decide)), fun q => ?_⟩
            refine ⟨aP A, at_, wa, wb, hA.1, hO.1, rfl, by omega, rfl, hwa, rfl, hwb, ?_⟩
            unfold rnU at h
            refine ⟨fun q2 => ?_, fun q2 => ?_⟩
            · have q2 : ¬ cnt (mdB (aP A) at_ wa wb) (aP A).2.length = 0 := fun z => q2 (by rw [z]; rfl)
              rw [if_neg q2] at h
              dsimp only at h
              obtain ⟨j, hj, ej⟩ := gotI_n (sd * 1103515245 + 12345)
              have hmod : j % cnt (mdB (aP A) at_ wa wb) (aP A).2.length < cnt (mdB (aP A) at_ wa wb) (aP A).2.length := Nat.mod_lt _ (by omega)
              have hgot : (gotI (sd * 1103515245 + 12345)).toNatClampNeg = j := by rw [ej, nI_clamp (by omega)]
              rw [hgot] at h
              obtain ⟨hc, hmd⟩ := nth_ok hmod
              refine ⟨fun z => q2 ((i_eq (b := 0) rfl rfl (by omega) (by decide)).mp z), ?_⟩
              have ek : gotI (sd * 1103515245 + 12345) - gotI (sd * 1103515245 + 12345) / nI (cnt (mdB (aP A) at_ wa wb) (aP A).2.length) * nI (cnt (mdB (aP A) at_ wa wb) (aP A).2.length) = nI (j % cnt (mdB (aP A) at_ wa wb) (aP A).2.length) := by
                rw [ej]
                exact pk_rem (by omega) (by omega) (by omega)
              refine ⟨aP A, at_, wa, wb, j % cnt (mdB (aP A) at_ wa wb) (aP A).2.length, hA.1, hO.1, rfl, by omega, rfl, hwa, rfl, hwb, ek, by omega, ?_⟩
              have hag0 := hO.1.ag_lt (k := 0) hc
              have hag1 := hO.1.ag_lt (k := 1) hc
              have w0 := wrt hO.1 hc hmd (k := 0) (by decide)
              have w1 := wrt hO.1 hc hmd (k := 1) (by decide)
              refine ⟨ag (aP A) _ 0, _, 0, wa, wb, hA.1.arg hc (by decide), hag0, rfl, rfl, by omega, rfl, hwa, rfl, hwb, w0.1, w0.2, ?_⟩
              refine ⟨ag (aP A) _ 1, _, 1, wa, wb, hA.1.arg hc (by decide), hag1, rfl, rfl, by omega, rfl, hwa, rfl, hwb, w1.1, w1.2, ?_⟩
              refine ⟨inA 12 rfl rfl (by omega) (by decide), ?_⟩
              have n1 := ih (to (aP A) (nthU (mdB (aP A) at_ wa wb) (aP A).2.length 0 (j % cnt (mdB (aP A) at_ wa wb) (aP A).2.length))) _ _ _ (made + 1) (some (.inl (nI (cnt (mdB (aP A) at_ wa wb) (aP A).2.length)))) (some (.inl (nI (nthU (mdB (aP A) at_ wa wb) (aP A).2.length 0 (j % cnt (mdB (aP A) at_ wa wb) (aP A).2.length))))) (some (.inl (nI (worthN (ag (aP A) (nthU (mdB (aP A) at_ wa wb) (aP A).2.length 0 (j % cnt (mdB (aP A) at_ wa wb) (aP A).2.length)) 0) wa wb)))) (by omega) (hO.1.to_lt hc) (worth_lt hag0 hwa hwb) (worth_lt hag1 hwa hwb) h
              rw [nI_succ, ← hA.1.to_i hO.1 hc] at n1
              exact n1
            · have q2 : cnt (mdB (aP A) at_ wa wb) (aP A).2.length = 0 := (i_eq (b := 0) rfl rfl (by omega) (by decide)).mp q2
              rw [if_pos q2] at h
              exact h
        exact key 200 i va vb s 0 none none none (by omega) hi (by omega) (by omega) h
      refine ⟨fun q => ?_, fun q => ⟨fun q2 => ?_, fun q2 => ?_⟩⟩
      · rw [hA.1.ar_i hO.1 hi] at q
        exact k52 (fun z => absurd (by rw [z]; rfl) q)
      · have q2 := (i_eq (b := 0) rfl rfl hvb (by decide)).mp q2
        exact k52 (fun _ => q2)
      · rw [hA.1.ar_i hO.1 hi] at q
        have q := (i_eq (b := 1) rfl rfl (by omega) (by decide)).mp q
        exact bad (by simp only [okN, ci, q, decide_eq_false q2, decide_true, Bool.not_true, Bool.or_self, Bool.and_false])
    · exact bad (by simp only [okN, decide_eq_false (fun (z : 0 ≤ y ∧ y ≤ 99) => d4 z.2), Bool.false_and, Bool.and_false])
  · exact h.elim
theorem shX4_run : ∀ As f a Q, sX4_run As f a Q → ∃ i r, As = .inr (.inr (4, i, 0)) :: r := by
  intro As f a Q h
  unfold sX4_run at h
  split at h
  · exact ⟨_, _, rfl⟩
  · exact h.elim
theorem mX4_run {g : Gm} (hg : GmOK g) : MetC g yX4_run cX4_run 13 (some .int) 3 sX4_run := by
  refine MetC_of hg eX4_run (eokX4_run hg) (by decide +kernel) (fun av f a post h => ?_) rX4_run
  unfold sX4_run at h
  split at h
  · exact Nat.le_of_ble_eq_true rfl
  · exact h.elim
