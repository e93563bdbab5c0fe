/-! the reference's run -/
theorem b_15 : ∀ i, i < 32 → bt 32767 i = decide (i < 15) := by decide +kernel
theorem gotS (x : Int32) : (x >>> ((16 : Int32) &&& 31)) &&& 32767 = gotI x := by
  refine b_ext (fun i hi => ?_)
  unfold gotI
  rw [b_and, b_and, b_15 i hi, show (16 : Int32) = nI 16 from rfl, b_sshr 16 (by decide) x hi, b_ushr 16 (by decide) x i]
  by_cases h : i < 15
  · rw [if_pos (by omega)]
  · rw [decide_eq_false h, Bool.and_false, Bool.and_false]
def FQ (a a' : AA) : Prop := ∀ t i k, ¬ (t = 5 ∧ i = 0 ∧ (k = 21 ∨ k = 22)) → a' t i k = a t i k
theorem FQ.rf (a : AA) : FQ a a := fun _ _ _ _ => rfl
theorem FQ.tr {a a' a'' : AA} (h : FQ a a') (h' : FQ a' a'') : FQ a a'' := fun t i k q => (h' t i k q).trans (h t i k q)
theorem FQ.fa {a a' a'' : AA} (h : FQ a a') {r : Nat} (hr : r = 21 ∨ r = 22) (h' : FA r a' a'') : FQ a a'' := fun t i k q => (h' t i k (fun z => q ⟨z.1, z.2.1, by omega⟩)).trans (h t i k q)
theorem FQ.ua {a a' : AA} (h : FQ a a') {r : Nat} (hr : r = 21 ∨ r = 22) (n : Nat) (x : Int32) : FQ a (upa a' 5 0 r n x) := h.fa hr ((FA.rf r a').ua n x)
theorem FQ.row {a a' : AA} (h : FQ a a') {k : Nat} (h1 : k ≠ 21) (h2 : k ≠ 22) : a' 5 0 k = a 5 0 k := h 5 0 k (fun q => by omega)
theorem FQ.s4 {a a' : AA} (h : FQ a a') (f : FF) : S4 f a f a' := fun t i ht => ⟨rfl, funext fun k => h t i k (fun q => ht q.1)⟩
theorem RepM.fq {f : FF} {a a' : AA} {A : Ab} (h : RepM f a A) (hF : FQ a a') : RepM f a' A :=
  h.of rfl rfl rfl rfl (fun k hk => by
    have : ∀ k, k ∈ [0, 1, 2, 4, 23, 24, 25] → k ≠ 21 ∧ k ≠ 22 := by decide
    exact hF.row (this k hk).1 (this k hk).2)
theorem worth_le {x va vb : Nat} (hx : x < 500) (ha : va ≤ 999) (hb : vb ≤ 999) : worthN x va vb ≤ 999 := by
  have := worth_lt (x := x) hx (show va < 1000 by omega) (show vb < 1000 by omega)
  omega
theorem worth_0 (va vb : Nat) : worthN 0 va vb = 0 := rfl
theorem ag_1 {P : Pg} (hW : WF P) {c : Nat} (hc : c < P.2.length) (h : ar P (to P c) = 1) : ag P c 1 = 0 := by
  have h2 := (hW.2.2.2 c hc).2.2.2
  have ea : ar P (cl P c).2.1 = ar P (to P c) := rfl
  rw [ea, if_neg (by omega)] at h2
  exact h2
def sX5_run : SP := fun As f a Q => match As with
  | [.inr (.inr (5, 0, 0)), .inl n, .inl x, .inl y, .inl s] => ∃ A, RepM f a A ∧ OKA A ∧ ∀ f' a', RepM f' a' A → S4 f a f' a' → Q (some (.inl (anRun A n x y s))) f' a'
  | _ => False
def eX5_run : En := (tX5_run, [(211, false, 2, sX5_isFun), (71, true, 3, sX5_in), (259, false, 2, sX5_madeMany), (263, false, 3, sX5_madeAt), (139, false, 3, sX5_of), (266, false, 3, sX5_argumentNow)], fdX5, [(257, .inr (.inl 99)), (262, .inl 1103515245)], 0)
theorem eokX5_run {g : Gm} (hg : GmOK g) : EnvOK g 4 RX5 cX5_run (some .int) eX5_run := ⟨okX5_run, fun _ _ _ _ h => as2_all (P := fun i v => CallOK g 4 RX5 i v.1 v.2.1 v.2.2) (l := eX5_run.2.1) ⟨callV_ok (t := 5) hg (mX5_isFun hg) kX5_isFun mlX5_211 qX5_isFun.1 qX5_isFun.2 ⟨by decide, by decide⟩ ⟨_, _, rfl⟩ shX5_isFun, callS_ok hg (mX5_in hg) kX5_in mlX5_71 qX5_in ⟨by decide, by decide⟩, callV_ok (t := 5) hg (mX5_madeMany hg) kX5_madeMany mlX5_259 qX5_madeMany.1 qX5_madeMany.2 ⟨by decide, by decide⟩ ⟨_, _, rfl⟩ shX5_madeMany, callV_ok (t := 5) hg (mX5_madeAt hg) kX5_madeAt mlX5_263 qX5_madeAt.1 qX5_madeAt.2 ⟨by decide, by decide⟩ ⟨_, _, rfl⟩ shX5_madeAt, callV_ok (t := 5) hg (mX5_of hg) kX5_of mlX5_139 qX5_of.1 qX5_of.2 ⟨by decide, by decide⟩ ⟨_, _, rfl⟩ shX5_of, callV_ok (t := 5) hg (mX5_argumentNow hg) kX5_argumentNow mlX5_266 qX5_argumentNow.1 qX5_argumentNow.2 ⟨by decide, by decide⟩ ⟨_, _, rfl⟩ shX5_argumentNow, trivial⟩ h, fdX5_ok, fun _ _ h => as2_all (P := fun i v => CstOK g RX5 i v ∧ vld v) (l := eX5_run.2.2.2.1) ⟨cstX5_257, cstX5_262, trivial⟩ h, rfl⟩
theorem rX5_run (av : List AV) (f : FF) (a : AA) (post : PT) (h : sX5_run av f a post) (X : XT) (hX : Clo eX5_run post X) : X 0 (padL 12 (ent av)) [] f a := by
  unfold sX5_run at h
  split at h
  · rename_i n x y s
    obtain ⟨A, hA, hO, h⟩ := h
    have hW := hO.1
    have h12 := hW.l12
    have h3 := hW.l3
    have g0 : ∀ a1, FQ a a1 → post (some (.inl (anRun A n x y s))) f a1 := fun a1 hF => h f a1 (hA.fq hF) (hF.s4 f)
    unfold anRun at g0
    have bad : okN A n x y = false → post (some (.inl (-1))) f a := fun z => by
      have g1 := g0 a (FQ.rf a)
      rw [if_neg (by rw [z]; decide)] at g1
      exact g1
    have ex : b2i (decide ((0 : Int64) ≤ x.toInt64 ∧ x.toInt64 ≤ (99 : Int64))) = b2i (decide (0 ≤ x ∧ x ≤ 99)) := in_c (by decide)
    have ey2 : b2i (decide ((0 : Int64) ≤ y.toInt64 ∧ y.toInt64 ≤ (99 : Int64))) = b2i (decide (0 ≤ y ∧ y ≤ 99)) := in_c (by decide)
    have ey1 : b2i (decide ((0 : Int64) ≤ y.toInt64 ∧ y.toInt64 ≤ (0 : Int64))) = b2i (decide (0 ≤ y ∧ y ≤ 0)) := in_c (by decide)
    refine hX [48] 90 _ _ _ _ _ ?_
    refine ⟨aP A, hA.1, hW, ⟨fun d => ?_, fun d => ⟨fun d1 => ?_, fun d1 => ?_⟩⟩⟩
    · have d : isF A n = false := b2i_e0.mp d
      exact bad (by simp only [okN, d, Bool.false_and])
    · have d1 := b2i_e0.mp (ex.symm.trans d1)
      exact bad (by simp only [okN, d1, Bool.false_and, Bool.and_false])
    · have d : isF A n = true := b2i_n0.mp d
      have d1b := b2i_n0.mp (fun z => d1 (ex.trans z))
      have d1 := of_decide_eq_true d1b
      obtain ⟨i, rfl, hi, hi3⟩ := isF_i hO d
      have ci : (nI i).toNatClampNeg = i := nI_clamp (by omega)
      obtain ⟨va, hva, rfl⟩ := ge0 (Int32.not_lt.mpr d1.1)
      have hva9 : va ≤ 99 := (nI_leI (b := 99) hva (by decide)).mp d1.2
      have hai := hW.2.2.1 i hi
      have ea := hA.1.arm hW (x := nI i) rfl hi
      have c2 : a 5 0 0 (nI i).toNatClampNeg = 2 ↔ ar (aP A) i = 2 := i_eq (b := 2) ea rfl (by omega) (by decide)
      -- the run
      have go : okN A (nI i) (nI va) y = true → X 48 [some (.inr (.inr (5, 0, 0))), some (.inl (nI i)), some (.inl (nI va)), some (.inl y), some (.inl s), none, none, none, none, none, none, none] [] f a := by
        intro hok
        have hy : 0 ≤ y ∧ y ≤ 99 := by
          unfold okN at hok
          simp only [Bool.and_eq_true] at hok
          exact of_decide_eq_true hok.2.2.1
        obtain ⟨vb, hvb, rfl⟩ := ge0 (Int32.not_lt.mpr hy.1)
        have hvb9 : vb ≤ 99 := (nI_leI (b := 99) hvb (by decide)).mp hy.2
        rw [if_pos hok, ci, nI_clamp hva, nI_clamp hvb] at g0
        obtain ⟨P, eP⟩ : ∃ P, P = aP A := ⟨_, rfl⟩
        have hR := hA.1
        rw [← eP] at hR hW hi h12 h3 g0
        obtain ⟨R0, eR⟩ : ∃ R0, R0 = rnU P 200 i va vb s 0 := ⟨_, rfl⟩
        rw [← eR] at g0
        have rm : ∀ a1, FQ a a1 → RM (a1 5 0 0) P := fun a1 hF => by rw [hF.row (by decide) (by decide)]; exact hR
        have key : ∀ (e at_ wa wb : Nat) (sd : Int32) (made : Nat) (a1 : AA) (z9 z10 z11 : Option AV), made + (e + 1) = 200 → at_ < P.1.length → ATm a1 wa wb → FQ a a1 → R0 = rnU P (e + 1) at_ wa wb sd made → X 80 [some (.inr (.inr (5, 0, 0))), some (.inl (nI i)), some (.inl (nI va)), some (.inl (nI vb)), some (.inl s), some (.inl sd), some (.inl (nI at_)), some (.inl (nI made)), some (.inl (nI (cnt (mdB P at_ wa wb) P.2.length))), z9, z10, z11] [] f a1 := by
          intro e
          induction e with
          | zero => ?_
          | succ e ih => ?_
          all_goals
            intro at_ wa wb sd made a1 z9 z10 z11 hm hat hT hF er
            have hR1 := rm a1 hF
            have hcn : cnt (mdB P at_ wa wb) P.2.length ≤ 12 := Nat.le_trans (cnt_le _ _) h12
            have cz : nI (cnt (mdB P at_ wa wb) P.2.length) ≤ 0 ↔ cnt (mdB P at_ wa wb) P.2.length ≤ 0 := nI_leI (b := 0) (by omega) (by decide)
            unfold rnU at er
            refine hX [138] 90 _ _ _ _ _ ?_
            refine ⟨fun q => ?_, fun q => ?_⟩
            · have q := cz.mp q
              rw [if_pos (by omega)] at er
              have g1 := g0 a1 hF
              rw [er] at g1
              exact g1
            · have q : ¬ cnt (mdB P at_ wa wb) P.2.length ≤ 0 := fun z => q (cz.mpr z)
              rw [if_neg (by omega)] at er
              dsimp only at er
              obtain ⟨j, hj, ej⟩ := gotI_n (sd * 1103515245 + 12345)
              have hgot : (gotI (sd * 1103515245 + 12345)).toNatClampNeg = j := by rw [ej, nI_clamp (by omega)]
              rw [hgot] at er
              have hmod : j % cnt (mdB P at_ wa wb) P.2.length < cnt (mdB P at_ wa wb) P.2.length := Nat.mod_lt _ (by omega)
              obtain ⟨hc, hmd⟩ := nth_ok hmod
              have ek : (((sd * 1103515245 + 12345) >>> ((16 : Int32) &&& 31)) &&& 32767) - (((sd * 1103515245 + 12345) >>> ((16 : Int32) &&& 31)) &&& 32767) / nI (cnt (mdB P at_ wa wb) P.2.length) * nI (cnt (mdB P at_ wa wb) P.2.length) = nI (j % cnt (mdB P at_ wa wb) P.2.length) := by
                rw [gotS, ej]
                exact pk_rem (by omega) (by omega) (by omega)
              refine ⟨nI_ne0 (by omega) (by omega), P, at_, wa, wb, j % cnt (mdB P at_ wa wb) P.2.length, hR1, hW, rfl, by omega, hT, ek, hmod, ?_⟩
              obtain ⟨c, ec⟩ : ∃ c, c = nthU (mdB P at_ wa wb) P.2.length 0 (j % cnt (mdB P at_ wa wb) P.2.length) := ⟨_, rfl⟩
              rw [← ec] at hc hmd er ⊢
              have hag0 := hW.ag_lt (k := 0) hc
              have hag1 := hW.ag_lt (k := 1) hc
              have w0 := wrt hW hc hmd (k := 0) (by decide)
              have w1 := wrt hW hc hmd (k := 1) (by decide)
              have hat2 := hW.ar_to hc
              have htl := hW.to_lt hc
              have i0 : ∀ r, al 5 r = 2 → vp_in 0 (al 5 r) := fun r hr => inA 2 (n := 0) rfl hr (by decide) (by decide)
              have i1 : ∀ r, al 5 r = 2 → vp_in 1 (al 5 r) := fun r hr => inA 2 (n := 1) rfl hr (by decide) (by decide)
              refine ⟨i0 22 rfl, i1 22 rfl, ?_⟩
              -- the next values
              have loop : ∀ k, k ≤ ar P (to P c) → ∀ a2 z9, FQ a a2 → ATm a2 wa wb → (∀ m, m < 2 → a2 5 0 22 m = if m < k then nI (worthN (ag P c m) wa wb) else 0) → X 138 [some (.inr (.inr (5, 0, 0))), some (.inl (nI i)), some (.inl (nI va)), some (.inl (nI vb)), some (.inl s), some (.inl (sd * 1103515245 + 12345)), some (.inl (nI at_)), some (.inl (nI made)), some (.inl (nI (cnt (mdB P at_ wa wb) P.2.length))), z9, some (.inl (nI c)), some (.inl (nI k))] [] f a2 := by
                refine forUp (Pr := fun k => ∀ a2 z9, FQ a a2 → ATm a2 wa wb → (∀ m, m < 2 → a2 5 0 22 m = if m < k then nI (worthN (ag P c m) wa wb) else 0) → X 138 [some (.inr (.inr (5, 0, 0))), some (.inl (nI i)), some (.inl (nI va)), some (.inl (nI vb)), some (.inl s), some (.inl (sd * 1103515245 + 12345)), some (.inl (nI at_)), some (.inl (nI made)), some (.inl (nI (cnt (mdB P at_ wa wb) P.2.length))), z9, some (.inl (nI c)), some (.inl (nI k))] [] f a2) ?_ ?_
                · intro k hk ihk a2 z9 hF2 hT2 hn
                  have hR2 := rm a2 hF2
                  obtain ⟨r0, r1, -⟩ := hR2.2.2.2 c hc
                  have et := hR2.arm hW r1 htl
                  have ck : (nI k).toNatClampNeg = k := nI_clamp (by omega)
                  have wk : (ag P c k / 100 = 1 → ag P c k % 10 ≤ valN (ag P c k) wa wb) ∧ (ag P c k / 100 = 2 → 0 < ag P c k % 10) := wrt hW hc hmd (by omega)
                  refine hX [138] 60 _ _ _ _ _ ?_
                  refine ⟨c, 1, rfl, rfl, by omega, inA 101 r1 rfl (by omega) (by decide), ⟨fun z => absurd ((i_le et rfl (by omega) (by omega)).mp z) (by omega), fun _ => ?_⟩⟩
                  refine ⟨P, c, k, wa, wb, hR2, hW, rfl, hc, rfl, by omega, hT2, wk.1, wk.2, inA 2 rfl rfl (by omega) (by decide), ?_⟩
                  have K := ihk (upa a2 5 0 22 (nI k).toNatClampNeg (nI (worthN (ag P c k) wa wb))) z9 (hF2.ua (Or.inr rfl) _ _) (by
                    unfold ATm
                    rw [upa_s, if_neg (by decide)]
                    exact hT2) (fun m hm => by
                    rw [upa_s, if_pos rfl, upd_s, ck]
                    by_cases z : m = k
                    · rw [if_pos z, if_pos (by omega), z]
                    · rw [if_neg z, hn m hm]
                      by_cases z2 : m < k
                      · rw [if_pos z2, if_pos (by omega)]
                      · rw [if_neg z2, if_neg (by omega)])
                  rw [← nI_1] at K
                  exact K
                · intro a2 z9 hF2 hT2 hn
                  have hR2 := rm a2 hF2
                  obtain ⟨r0, r1, -⟩ := hR2.2.2.2 c hc
                  have et := hR2.arm hW r1 htl
                  have n0 : a2 5 0 22 0 = nI (worthN (ag P c 0) wa wb) := by rw [hn 0 (by decide), if_pos (by omega)]
                  have n1 : a2 5 0 22 1 = nI (worthN (ag P c 1) wa wb) := by
                    rw [hn 1 (by decide)]
                    by_cases z : 1 < ar P (to P c)
                    · rw [if_pos z]
                    · rw [if_neg z, ag_1 hW hc (by omega), worth_0]
                      rfl
                  refine hX [200] 90 _ _ _ _ _ ?_
                  refine ⟨c, 1, rfl, rfl, by omega, inA 101 r1 rfl (by omega) (by decide), ⟨fun _ => ?_, fun z => absurd ((i_le et rfl (by omega) (by omega)).mpr (Nat.le_refl _)) z⟩⟩
                  obtain ⟨a3, e3⟩ : ∃ a3, a3 = upa a2 5 0 21 0 (a2 5 0 22 0) := ⟨_, rfl⟩
                  obtain ⟨a4, e4⟩ : ∃ a4, a4 = upa a3 5 0 21 1 (a3 5 0 22 1) := ⟨_, rfl⟩
                  have hF4 : FQ a a4 := by
                    rw [e4, e3]
                    exact (hF2.ua (Or.inl rfl) _ _).ua (Or.inl rfl) _ _
                  have hT4 : ATm a4 (worthN (ag P c 0) wa wb) (worthN (ag P c 1) wa wb) := by
                    refine ⟨?_, ?_, worth_le hag0 hT.2.2.1 hT.2.2.2, worth_le hag1 hT.2.2.1 hT.2.2.2⟩
                    · rw [e4, upa_s, if_pos rfl, upd_s, if_neg (by decide), e3, upa_s, if_pos rfl, upd_s, if_pos rfl, n0]
                    · rw [e4, upa_s, if_pos rfl, upd_s, if_pos rfl, e3, upa_s, if_neg (show ¬ 22 = 21 by decide), n1]
                  have hR4 := rm a4 hF4
                  have r14 : a4 5 0 0 (4 + 8 * c + 1) = nI (to P c) := (hR4.2.2.2 c hc).2.1
                  have c200 : nI made + 1 = 200 ↔ made + 1 = 200 := i_eq (b := 200) (nI_1 made) rfl (by omega) (by decide)
                  have F200 : X 200 [some (.inr (.inr (5, 0, 0))), some (.inl (nI i)), some (.inl (nI va)), some (.inl (nI vb)), some (.inl s), some (.inl (sd * 1103515245 + 12345)), some (.inl (nI at_)), some (.inl (nI made)), some (.inl (nI (cnt (mdB P at_ wa wb) P.2.length))), z9, some (.inl (nI c)), some (.inl (nI (ar P (to P c))))] [] f a4 := by
                    refine hX [80] 60 _ _ _ _ _ ?_
                    refine ⟨c, 1, rfl, rfl, by omega, ⟨fun z => ?_, fun z => ?_⟩⟩
                    · have z : ¬ made + 1 = 200 := fun y => z (c200.mpr y)
                      refine ⟨P, to P c, worthN (ag P c 0) wa wb, worthN (ag P c 1) wa wb, hR4, hW, r14, by omega, hT4, ?_⟩
                      first
                        | exact absurd (by omega) z
                        | have K := ih (to P c) (worthN (ag P c 0) wa wb) (worthN (ag P c 1) wa wb) (sd * 1103515245 + 12345) (made + 1) a4 z9 (some (.inl (nI c))) (some (.inl (nI (ar P (to P c))))) (by omega) htl hT4 hF4 er
                          rw [← nI_1, ← r14] at K
                          exact K
                    · have z : made + 1 = 200 := c200.mp z
                      first
                        | exact absurd z (by omega)
                        | have g1 := g0 a4 hF4
                          rw [er] at g1
                          exact g1
                  refine ⟨i0 22 rfl, i0 21 rfl, i1 22 rfl, i1 21 rfl, ?_⟩
                  rw [e4, e3] at F200
                  exact F200
              have hT2 : ATm (upa (upa a1 5 0 22 0 0) 5 0 22 1 0) wa wb := by
                unfold ATm
                rw [upa_s, if_neg (by decide), upa_s, if_neg (by decide)]
                exact hT
              exact loop 0 (Nat.zero_le _) (upa (upa a1 5 0 22 0 0) 5 0 22 1 0) _ ((hF.ua (Or.inr rfl) _ _).ua (Or.inr rfl) _ _) hT2 (fun m hm => by
                rw [if_neg (Nat.not_lt_zero m), upa_s, if_pos rfl, upd_s]
                by_cases z : m = 1
                · rw [if_pos z]
                · rw [if_neg z, upa_s, if_pos rfl, upd_s, if_pos (by omega)])
        have hT1 : ATm (upa (upa a 5 0 21 0 (nI va)) 5 0 21 1 (nI vb)) va vb := by
          refine ⟨?_, ?_, by omega, by omega⟩
          · rw [upa_s, if_pos rfl, upd_s, if_neg (by decide), upa_s, if_pos rfl, upd_s, if_pos rfl]
          · rw [upa_s, if_pos rfl, upd_s, if_pos rfl]
        have hF1 : FQ a (upa (upa a 5 0 21 0 (nI va)) 5 0 21 1 (nI vb)) := ((FQ.rf a).ua (Or.inl rfl) _ _).ua (Or.inl rfl) _ _
        refine hX [80] 90 _ _ _ _ _ ?_
        refine ⟨inA 2 (n := 0) rfl rfl (by decide) (by decide), inA 2 (n := 1) rfl rfl (by decide) (by decide), ?_⟩
        exact ⟨P, i, va, vb, rm _ hF1, hW, rfl, hi3, hT1, key 199 i va vb s 0 _ _ _ _ (by omega) hi hT1 hF1 eR⟩
      refine ⟨inA 101 rfl rfl (by omega) (by decide), ⟨fun q => ⟨fun d2 => ?_, fun d2 => ?_⟩, fun q => ⟨fun d2 => ?_, fun d2 => ?_⟩⟩⟩
      · have q : ar (aP A) i = 1 := by have : ¬ ar (aP A) i = 2 := fun z => q (c2.mpr z); omega
        have d2 := of_decide_eq_true (b2i_n0.mp (fun z => d2 (ey1.trans z)))
        have y0 : y = 0 := Int32.le_antisymm d2.2 d2.1
        refine go ?_
        subst y0
        unfold okN
        rw [d, d1b, ci, q]
        decide
      · have q : ar (aP A) i = 1 := by have : ¬ ar (aP A) i = 2 := fun z => q (c2.mpr z); omega
        have d2 := of_decide_eq_false (b2i_e0.mp (ey1.symm.trans d2))
        have y0 : ¬ y = 0 := fun z => d2 (by rw [z]; decide)
        exact bad (by simp only [okN, ci, q, decide_eq_false y0, decide_true, Bool.not_true, Bool.or_self, Bool.and_false])
      · have q := c2.mp q
        have d2 := b2i_n0.mp (fun z => d2 (ey2.trans z))
        refine go ?_
        unfold okN
        rw [d, d1b, d2, ci, q]
        rfl
      · have d2 := b2i_e0.mp (ey2.symm.trans d2)
        exact bad (by simp only [okN, d2, Bool.false_and, Bool.and_false])
  · exact h.elim
theorem shX5_run : ∀ As f a Q, sX5_run As f a Q → ∃ i r, As = .inr (.inr (5, i, 0)) :: r := by
  intro As f a Q h
  unfold sX5_run at h
  split at h
  · exact ⟨_, _, rfl⟩
  · exact h.elim
theorem mX5_run {g : Gm} (hg : GmOK g) : MetC g yX5_run cX5_run 12 (some .int) 4 sX5_run := by
  refine MetC_of hg eX5_run (eokX5_run hg) (by decide +kernel) (fun av f a post h => ?_) rX5_run
  unfold sX5_run at h
  split at h
  · exact Nat.le_of_ble_eq_true rfl
  · exact h.elim
