/-! the reference: a line of the text -/
def tcA (T : List Nat) (σ : Lx) (P : Pg) : Lx × Pg :=
  if (tnS T 0 P.1.length (tnS T 0 P.1.length σ)).1 ≠ 0 then (tnS T 0 P.1.length (tnS T 0 P.1.length σ), P) else
  let x := tnV T 0 P.1.length σ
  let y := tnV T 0 P.1.length (tnS T 0 P.1.length σ)
  let r := taN T (ar P x) (tnS T 0 P.1.length (tnS T 0 P.1.length σ))
  let w := if ar P y = 2 then taN T (ar P x) r.2 else (0, r.2)
  (w.2, (P.1, P.2 ++ [(x, y, r.1, w.1)]))
theorem tcA_lok {T : List Nat} {σ : Lx} {P : Pg} (h : LOK T σ) : LOK T (tcA T σ P).1 := by
  unfold tcA
  split
  · exact (h.tn _ _).tn _ _
  · dsimp only
    split
    · exact (((h.tn _ _).tn _ _).ta _).ta _
    · exact ((h.tn _ _).tn _ _).ta _
theorem tcN_A {T : List Nat} {σ : Lx} {P : Pg} (h : LOK T σ) (hl : P.2.length < 12) : tcN T σ P = (tlS T (tcA T (stepN T σ) P).1, (tcA T (stepN T σ) P).2) := by
  have hL := ((h.step.tn 0 P.1.length).tn 0 P.1.length)
  unfold tcN tcA
  rw [if_neg (by omega)]
  by_cases z : (tnS T 0 P.1.length (tnS T 0 P.1.length (stepN T σ))).1 ≠ 0
  · rw [if_pos z, if_pos z, tlS_id hL z]
  · rw [if_neg z, if_neg z]
/-- what a call's line adds, if nothing is wrong -/
theorem tcA_ok {T : List Nat} {σ : Lx} {P : Pg} (hL : LOK T σ) (hW : WF P) (hl : P.2.length < 12) (h : (tcA T σ P).1.1 = 0) : WF (tcA T σ P).2 ∧ (tcA T σ P).2.1.length + (tcA T σ P).2.2.length = P.1.length + P.2.length + 1 := by
  have hL2 := ((hL.tn 0 P.1.length).tn 0 P.1.length)
  unfold tcA at h ⊢
  by_cases z : (tnS T 0 P.1.length (tnS T 0 P.1.length σ)).1 ≠ 0
  · rw [if_pos z] at h
    exact absurd h z
  · rw [if_neg z] at h ⊢
    have z : (tnS T 0 P.1.length (tnS T 0 P.1.length σ)).1 = 0 := Decidable.not_not.mp z
    have z1 : (tnS T 0 P.1.length σ).1 = 0 := stk (T := T) (fun q => tnS_id (hL.tn 0 P.1.length) q 0 P.1.length) z
    have hx := tnV_in z1
    have hy := tnV_in z
    obtain ⟨x, ex⟩ : ∃ x, x = tnV T 0 P.1.length σ := ⟨_, rfl⟩
    obtain ⟨y, ey⟩ : ∃ y, y = tnV T 0 P.1.length (tnS T 0 P.1.length σ) := ⟨_, rfl⟩
    obtain ⟨σ2, e2⟩ : ∃ σ2, σ2 = tnS T 0 P.1.length (tnS T 0 P.1.length σ) := ⟨_, rfl⟩
    rw [← ex] at hx
    rw [← ey] at hy
    rw [← e2] at hL2
    rw [← ex, ← ey, ← e2] at h ⊢
    dsimp only at h ⊢
    have ax := hW.2.2.1 x hx.2
    refine ⟨?_, by rw [List.length_append]; simp; omega⟩
    by_cases a2 : ar P y = 2
    · rw [if_pos a2] at h ⊢
      have h1 : (taN T (ar P x) σ2).2.1 = 0 := stk (T := T) (fun q => taN_id (hL2.ta _) q (ar P x)) h
      refine hW.app hl ⟨hx.2, hy.2, taN_ok hL2 ax h1, ?_⟩
      show (if ar P y = 2 then okA (ar P x) _ = true else _)
      rw [if_pos a2]
      exact taN_ok (hL2.ta _) ax h
    · rw [if_neg a2] at h ⊢
      refine hW.app hl ⟨hx.2, hy.2, taN_ok hL2 ax h, ?_⟩
      show (if ar P y = 2 then _ else (0 : Nat) = 0)
      rw [if_neg a2]
theorem tlS_0 {T : List Nat} {σ : Lx} (hL : LOK T σ) (h : (tlS T σ).1 = 0) : σ.1 = 0 := stk (T := T) (fun q => tlS_id hL q) h
theorem lnN_ok {T : List Nat} {σ : Lx} {P : Pg} (hL : LOK T σ) (hW : WF P) (h : (lnN T σ P).1.1 = 0) : WF (lnN T σ P).2 ∧ (lnN T σ P).2.1.length + (lnN T σ P).2.2.length = P.1.length + P.2.length + 1 := by
  unfold lnN at h ⊢
  by_cases c0 : nmB T σ 0 = true
  · rw [if_pos c0] at h ⊢
    unfold tfN at h ⊢
    by_cases l3 : 3 ≤ P.1.length
    · rw [if_pos l3] at h
      exact absurd h (ref_f (by decide) σ)
    · rw [if_neg l3] at h ⊢
      have h1 := tlS_0 (hL.step.tn 1 3) h
      have hv := tnV_in h1
      exact ⟨hW.opn (by omega) (by omega), by rw [List.length_append]; simp; omega⟩
  · rw [if_neg c0] at h ⊢
    by_cases c1 : nmB T σ 1 = true
    · rw [if_pos c1] at h ⊢
      by_cases l12 : 12 ≤ P.2.length
      · unfold tcN at h
        rw [if_pos l12] at h
        exact absurd h (ref_f (by decide) σ)
      · rw [tcN_A hL (by omega)] at h ⊢
        exact tcA_ok hL.step hW (by omega) (tlS_0 (tcA_lok hL.step) h)
    · rw [if_neg c1] at h
      exact absurd h (ref_f (by decide) σ)
theorem lnN_lok {T : List Nat} {σ : Lx} {P : Pg} (hL : LOK T σ) : LOK T (lnN T σ P).1 := by
  unfold lnN
  split
  · unfold tfN
    split
    · exact hL.ref (by decide)
    · exact (hL.step.tn 1 3).tl
  · split
    · by_cases l12 : 12 ≤ P.2.length
      · unfold tcN
        rw [if_pos l12]
        exact hL.ref (by decide)
      · rw [tcN_A hL (by omega)]
        exact (tcA_lok hL.step).tl
    · exact hL.ref (by decide)
theorem RM.app4 {w w' : Nat → Int32} {P : Pg} (h : RM w P) {x y r s : Nat} (hl : P.2.length < 12) (h3 : P.1.length ≤ 3) (h100 : w' 100 = nI (P.2.length + 1)) (e0 : w' (4 + 8 * P.2.length) = nI x) (e1 : w' (4 + 8 * P.2.length + 1) = nI y) (d0 : D3 w' (4 + 8 * P.2.length + 2) r) (d1 : D3 w' (4 + 8 * P.2.length + 5) s) (hw : ∀ j, j < 4 + 8 * P.2.length → w' j = w j) : RM w' (P.1, P.2 ++ [(x, y, r, s)]) := by
  refine ⟨by rw [hw 3 (by omega)]; exact h.1, by rw [h100, List.length_append]; rfl, fun i hi => ?_, fun c hc => ?_⟩
  · have hi : i < P.1.length := hi
    rw [hw i (by omega)]
    exact h.2.2.1 i hi
  · have hc : c < P.2.length ∨ c = P.2.length := by
      have : c < (P.2 ++ [(x, y, r, s)]).length := hc
      rw [List.length_append] at this
      simp at this
      omega
    simp only [fr, to, ag]
    rw [cl_app]
    rcases hc with hc | rfl
    · rw [if_pos hc]
      obtain ⟨q0, q1, q2⟩ := h.2.2.2 c hc
      refine ⟨by rw [hw _ (by omega)]; exact q0, by rw [hw _ (by omega)]; exact q1, fun k hk => ?_⟩
      obtain ⟨q3, q4, q5⟩ := q2 k hk
      exact ⟨by rw [hw _ (by omega)]; exact q3, by rw [hw _ (by omega)]; exact q4, by rw [hw _ (by omega)]; exact q5⟩
    · rw [if_neg (Nat.lt_irrefl _), if_pos rfl]
      refine ⟨e0, e1, fun k hk => ?_⟩
      rcases (show k = 0 ∨ k = 1 by omega) with rfl | rfl
      · exact d0
      · exact d1
def sX5_readCall : SP := fun As f a Q => match As with
  | [.inr (.inr (5, 0, 0))] => ∃ T σ P, LMT f a T σ ∧ σ.1 = 0 ∧ RM (a 5 0 3) P ∧ WF P ∧ P.2.length < 12 ∧ ∀ f' a', FL f f' → FA 3 a a' → LMT f' a' T (tcA T σ P).1 → ((tcA T σ P).1.1 = 0 → RM (a' 5 0 3) (tcA T σ P).2) → Q none f' a'
  | _ => False
def eX5_readCall : En := (tX5_readCall, [(122, false, 3, sX5_readNumber), (129, false, 3, sX5_readArgument)], fdX5, [], 2)
theorem eokX5_readCall {g : Gm} (hg : GmOK g) : EnvOK g 4 RX5 cX5_readCall none eX5_readCall := ⟨okX5_readCall, fun _ _ _ _ h => as2_all (P := fun i v => CallOK g 4 RX5 i v.1 v.2.1 v.2.2) (l := eX5_readCall.2.1) ⟨callV_ok (t := 5) hg (mX5_readNumber hg) kX5_readNumber mlX5_122 qX5_readNumber.1 qX5_readNumber.2 ⟨by decide, by decide⟩ ⟨_, _, rfl⟩ shX5_readNumber, callV_ok (t := 5) hg (mX5_readArgument hg) kX5_readArgument mlX5_129 qX5_readArgument.1 qX5_readArgument.2 ⟨by decide, by decide⟩ ⟨_, _, rfl⟩ shX5_readArgument, trivial⟩ h, fdX5_ok, (fun _ _ h => by cases h), rfl⟩
theorem FA.r4 {a a' : AA} (h : FA 3 a a') : a' 5 0 4 = a 5 0 4 := h.row (by decide)
theorem rX5_readCall (av : List AV) (f : FF) (a : AA) (post : PT) (h : sX5_readCall av f a post) (X : XT) (hX : Clo eX5_readCall post X) : X 0 (padL 4 (ent av)) [] f a := by
  unfold sX5_readCall at h
  split at h
  · obtain ⟨T, σ, P, hM, h0, hR, hW, hl, h⟩ := h
    have n3 := hW.l3
    obtain ⟨R, eR⟩ : ∃ R, R = tcA T σ P := ⟨_, rfl⟩
    rw [← eR] at h
    obtain ⟨L, eL⟩ : ∃ L, L = P.2.length := ⟨_, rfl⟩
    have e100 := hR.2.1
    rw [← eL] at hl e100
    have ec : 4 + 8 * a 5 0 3 100 = nI (4 + 8 * L) := by
      rw [e100, show (4 : Int32) = nI 4 from rfl, show (8 : Int32) = nI 8 from rfl, nI_mul, nI_add]
    have i100 : vp_in 100 (al 5 3) := inA 101 (n := 100) rfl rfl (by decide) (by decide)
    have ix : ∀ j, j < 8 → vp_in (nI (4 + 8 * L) + nI j) (al 5 3) := fun j hj => inA 101 (nI_add _ _) rfl (by omega) (by decide)
    have cx : ∀ j, j < 8 → (nI (4 + 8 * L) + nI j).toNatClampNeg = 4 + 8 * L + j := fun j hj => by rw [nI_add, nI_clamp (by omega)]
    have ar_ : ∀ a1 : AA, (∀ j, j < 4 + 8 * L → a1 5 0 3 j = a 5 0 3 j) → ∀ (x : Int32) (i : Nat), x = nI i → i < P.1.length → a1 5 0 3 x.toNatClampNeg = nI (ar P i) := fun a1 hw x i hx hi => by
      rw [hx, nI_clamp (by omega), hw i (by omega)]
      exact hR.2.2.1 i hi
    -- the end
    have fin : ∀ (f5 : FF) (a5 : AA) (z : Option AV), FL f f5 → FA 3 a a5 → LMT f5 a5 T R.1 → a5 5 0 3 100 = nI L → (R.1.1 = 0 → RM (upa a5 5 0 3 100 (nI (L + 1)) 5 0 3) R.2) → X 132 [some (.inr (.inr (5, 0, 0))), some (.inl (a 5 0 3 3)), some (.inl (nI (4 + 8 * L))), z] [] f5 a5 := by
      intro f5 a5 z hF hA5 hM5 h100 hRM
      refine hX [] 40 _ _ _ _ _ ?_
      refine ⟨i100, i100, ?_⟩
      have e : a5 5 0 3 100 + 1 = nI (L + 1) := by rw [h100, nI_1]
      have hA6 : FA 3 a5 (upa a5 5 0 3 100 (nI (L + 1))) := (FA.rf 3 a5).ua _ _
      refine pV (h f5 (upa a5 5 0 3 100 (nI (L + 1))) hF (hA5.tr hA6) (hM5.fc hA6.r4) hRM) rfl ?_
      show _ = upa a5 5 0 3 100 (a5 5 0 3 100 + 1)
      rw [e]
    -- behind the zeros
    have h43 : ∀ (a1 : AA) (z : Option AV), FA 3 a a1 → (∀ j, j < 8 → a1 5 0 3 (4 + 8 * L + j) = 0) → (∀ j, j < 4 + 8 * L ∨ j = 100 → a1 5 0 3 j = a 5 0 3 j) → X 43 [some (.inr (.inr (5, 0, 0))), some (.inl (a 5 0 3 3)), some (.inl (nI (4 + 8 * L))), z] [] f a1 := by
      intro a1 z hA1 hz hw
      have hy : a 5 0 3 3 - 1 = nI P.1.length - 1 := by rw [hR.1]
      refine hX [85] 90 _ _ _ _ _ ?_
      refine ⟨T, σ, 0, P.1.length, hM.fc hA1.r4, rfl, by decide, hy, by omega, fun f1 x1 hF1 hM1 hx1 hb1 => ⟨ix 0 (by decide), ?_⟩⟩
      obtain ⟨σ1, eσ1⟩ : ∃ σ1, σ1 = tnS T 0 P.1.length σ := ⟨_, rfl⟩
      rw [← eσ1] at hM1 hx1
      refine ⟨T, σ1, 0, P.1.length, hM1.fc ((FA.rf 3 a1).ua _ _).r4, rfl, by decide, hy, by omega, fun f2 y1 hF2 hM2 hy1 hb2 => ⟨ix 1 (by decide), ?_⟩⟩
      obtain ⟨σ2, eσ2⟩ : ∃ σ2, σ2 = tnS T 0 P.1.length σ1 := ⟨_, rfl⟩
      rw [← eσ2] at hM2 hy1
      obtain ⟨a3, ea3⟩ : ∃ a3, a3 = upa (upa a1 5 0 3 (nI (4 + 8 * L) + nI 0).toNatClampNeg x1) 5 0 3 (nI (4 + 8 * L) + nI 1).toNatClampNeg y1 := ⟨_, rfl⟩
      have hA13 : FA 3 a1 a3 := by
        rw [ea3]
        exact ((FA.rf 3 a1).ua _ _).ua _ _
      have r3 : ∀ m, a3 5 0 3 m = if m = 4 + 8 * L + 1 then y1 else if m = 4 + 8 * L + 0 then x1 else a1 5 0 3 m := fun m => by
        rw [ea3, upa_s, if_pos rfl, upd_s, cx 1 (by decide), upa_s, if_pos rfl, upd_s, cx 0 (by decide)]
      have hA3 : FA 3 a a3 := hA1.tr hA13
      have hM2 : LMT f2 a3 T σ2 := hM2.fc (by rw [hA3.r4, ((FA.rf 3 a1).ua _ _).r4, hA1.r4])
      have hF12 := hF1.tr hF2
      have eR1 : R = if σ2.1 ≠ 0 then (σ2, P) else (fun (x y : Nat) => (fun (r : Nat × Lx) => (fun (w : Nat × Lx) => ((w.2, (P.1, P.2 ++ [(x, y, r.1, w.1)])) : Lx × Pg)) (if ar P y = 2 then taN T (ar P x) r.2 else (0, r.2))) (taN T (ar P x) σ2)) (tnV T 0 P.1.length σ) (tnV T 0 P.1.length σ1) := by
        rw [eR, eσ2, eσ1]
        rfl
      have go : (σ2.1 = 0 → X 85 [some (.inr (.inr (5, 0, 0))), some (.inl (a 5 0 3 3)), some (.inl (nI (4 + 8 * L))), some (.inl 0)] [] f2 a3) ∧ (σ2.1 ≠ 0 → post none f2 a3) := by
        refine ⟨fun z2 => ?_, fun z2 => ?_⟩
        · rw [if_neg (fun y => y z2)] at eR1
          dsimp only at eR1
          have z1 : σ1.1 = 0 := stk (T := T) (fun q => by rw [eσ2]; exact tnS_id hM1.2.2 q 0 P.1.length) z2
          have hx := tnV_in (show (tnS T 0 P.1.length σ).1 = 0 by rw [← eσ1]; exact z1)
          have hy := tnV_in (show (tnS T 0 P.1.length σ1).1 = 0 by rw [← eσ2]; exact z2)
          have hx1 := hx1 z1
          have hy1 := hy1 z2
          obtain ⟨x, ex⟩ : ∃ x, x = tnV T 0 P.1.length σ := ⟨_, rfl⟩
          obtain ⟨y, ey⟩ : ∃ y, y = tnV T 0 P.1.length σ1 := ⟨_, rfl⟩
          rw [← ex] at hx hx1 eR1
          rw [← ey] at hy hy1 eR1
          have ax := hW.2.2.1 x hx.2
          have ay := hW.2.2.1 y hy.2
          have w3 : ∀ j, j < 4 + 8 * L → a3 5 0 3 j = a 5 0 3 j := fun j hj => by
            rw [r3, if_neg (by omega), if_neg (by omega)]
            exact hw j (Or.inl hj)
          have w100 : a3 5 0 3 100 = nI L := by
            rw [r3, if_neg (by omega), if_neg (by omega), hw 100 (Or.inr rfl)]
            exact e100
          have z3 : ∀ j, 2 ≤ j → j < 8 → a3 5 0 3 (4 + 8 * L + j) = 0 := fun j h2 h8 => by
            rw [r3, if_neg (by omega), if_neg (by omega)]
            exact hz j h8
          have x3 : a3 5 0 3 (4 + 8 * L) = nI x := by
            rw [r3, if_neg (by omega), if_pos (by omega)]
            exact hx1
          have y3 : a3 5 0 3 (4 + 8 * L + 1) = nI y := by
            rw [r3, if_pos rfl]
            exact hy1
          have ea0 : nI (4 + 8 * L) + 2 + 3 * 0 = nI (4 + 8 * L + 2) := by
            rw [show (3 : Int32) * 0 = 0 from by decide, Int32.add_zero, show (2 : Int32) = nI 2 from rfl, nI_add]
          have ea1 : nI (4 + 8 * L) + 2 + 3 * (0 + 1) = nI (4 + 8 * L + 5) := by
            rw [show (3 : Int32) * (0 + 1) = nI 3 from by decide, show (2 : Int32) = nI 2 from rfl, nI_add, nI_add]
          -- one argument
          have cxy : ∀ a4 : AA, a4 5 0 3 (4 + 8 * L + 1) = nI y → a4 5 0 3 (nI (4 + 8 * L) + nI 1).toNatClampNeg = nI y := fun a4 q => by rw [cx 1 (by decide)]; exact q
          have cxx : ∀ a4 : AA, a4 5 0 3 (4 + 8 * L) = nI x → a4 5 0 3 (nI (4 + 8 * L) + nI 0).toNatClampNeg = nI x := fun a4 q => by rw [cx 0 (by decide)]; exact q
          refine hX [85, 132] 60 _ _ _ _ _ ?_
          refine ⟨ix 1 (by decide), inA 101 (cxy a3 y3) rfl (by omega) (by decide), ⟨fun q => ?_, fun _ => ?_⟩⟩
          · have q : a3 5 0 3 (a3 5 0 3 (nI (4 + 8 * L) + nI 1).toNatClampNeg).toNatClampNeg ≤ nI 0 := q
            exact absurd ((i_le (ar_ a3 w3 _ y (cxy a3 y3) hy.2) rfl (by omega) (by decide)).mp q) (by omega)
          refine ⟨ix 0 (by decide), inA 101 (cxx a3 x3) rfl (by omega) (by decide), T, σ2, ar P x, 4 + 8 * L + 2, hM2, ea0, by omega, ar_ a3 w3 _ x (cxx a3 x3) hx.2, by omega, z3 3 (by decide) (by decide), fun f3 a4 hF3 hC4 hM4 hD4 => ?_⟩
          obtain ⟨r, er⟩ : ∃ r, r = taN T (ar P x) σ2 := ⟨_, rfl⟩
          rw [← er] at hM4 hD4 eR1
          have hA4 : FA 3 a a4 := hA3.tr hC4.1
          have hF3' := hF12.tr hF3
          have w4 : ∀ j, j < 4 + 8 * L → a4 5 0 3 j = a 5 0 3 j := fun j hj => by rw [hC4.2 j (by omega) (by omega) (by omega)]; exact w3 j hj
          have w4100 : a4 5 0 3 100 = nI L := by rw [hC4.2 100 (by omega) (by omega) (by omega)]; exact w100
          have x4 : a4 5 0 3 (4 + 8 * L) = nI x := by rw [hC4.2 _ (by omega) (by omega) (by omega)]; exact x3
          have y4 : a4 5 0 3 (4 + 8 * L + 1) = nI y := by rw [hC4.2 _ (by omega) (by omega) (by omega)]; exact y3
          have z4 : ∀ j, 5 ≤ j → j < 8 → a4 5 0 3 (4 + 8 * L + j) = 0 := fun j h5 h8 => by rw [hC4.2 _ (by omega) (by omega) (by omega)]; exact z3 j (by omega) h8
          have n85 : X 85 [some (.inr (.inr (5, 0, 0))), some (.inl (a 5 0 3 3)), some (.inl (nI (4 + 8 * L))), some (.inl (0 + 1))] [] f3 a4 := by
            refine hX [85, 132] 60 _ _ _ _ _ ?_
            refine ⟨ix 1 (by decide), inA 101 (cxy a4 y4) rfl (by omega) (by decide), ⟨fun q => ?_, fun q => ?_⟩⟩
            · have q : a4 5 0 3 (a4 5 0 3 (nI (4 + 8 * L) + nI 1).toNatClampNeg).toNatClampNeg ≤ nI 1 := q
              have q := (i_le (ar_ a4 w4 _ y (cxy a4 y4) hy.2) rfl (by omega) (by decide)).mp q
              have a1 : ar P y = 1 := by omega
              rw [if_neg (by omega)] at eR1
              refine fin f3 a4 _ hF3' hA4 (by rw [eR1]; exact hM4) w4100 (fun k => ?_)
              rw [eR1] at k ⊢
              have hD4 := hD4 k
              dsimp only
              refine hR.app4 (by omega) n3 (by rw [upa_s, if_pos rfl, upd_s, if_pos rfl, eL]) ?_ ?_ ?_ ?_ (fun j hj => ?_)
              · rw [← eL, upa_s, if_pos rfl, upd_s, if_neg (by omega)]
                exact x4
              · rw [← eL, upa_s, if_pos rfl, upd_s, if_neg (by omega)]
                exact y4
              · rw [← eL]
                unfold D3
                rw [upa_s, if_pos rfl, upd_s, upd_s, upd_s, if_neg (by omega), if_neg (by omega), if_neg (by omega)]
                exact hD4
              · rw [← eL]
                unfold D3
                rw [upa_s, if_pos rfl, upd_s, upd_s, upd_s, if_neg (by omega), if_neg (by omega), if_neg (by omega)]
                exact ⟨z4 5 (by decide) (by decide), z4 6 (by decide) (by decide), z4 7 (by decide) (by decide)⟩
              · rw [← eL] at hj
                rw [upa_s, if_pos rfl, upd_s, if_neg (by omega)]
                exact w4 j hj
            · have q : ¬ a4 5 0 3 (a4 5 0 3 (nI (4 + 8 * L) + nI 1).toNatClampNeg).toNatClampNeg ≤ nI 1 := q
              have q : ¬ ar P y ≤ 1 := fun k => q ((i_le (ar_ a4 w4 _ y (cxy a4 y4) hy.2) rfl (by omega) (by decide)).mpr k)
              rw [if_pos (show ar P y = 2 by omega)] at eR1
              refine ⟨ix 0 (by decide), inA 101 (cxx a4 x4) rfl (by omega) (by decide), T, r.2, ar P x, 4 + 8 * L + 5, hM4, ea1, by omega, ar_ a4 w4 _ x (cxx a4 x4) hx.2, by omega, z4 6 (by decide) (by decide), fun f4 a5 hF4 hC5 hM5 hD5 => ?_⟩
              obtain ⟨s, es⟩ : ∃ s, s = taN T (ar P x) r.2 := ⟨_, rfl⟩
              rw [← es] at hM5 hD5 eR1
              have hA5 : FA 3 a a5 := hA4.tr hC5.1
              have w5 : ∀ j, j < 4 + 8 * L → a5 5 0 3 j = a 5 0 3 j := fun j hj => by rw [hC5.2 j (by omega) (by omega) (by omega)]; exact w4 j hj
              have w5100 : a5 5 0 3 100 = nI L := by rw [hC5.2 100 (by omega) (by omega) (by omega)]; exact w4100
              have x5 : a5 5 0 3 (4 + 8 * L) = nI x := by rw [hC5.2 _ (by omega) (by omega) (by omega)]; exact x4
              have y5 : a5 5 0 3 (4 + 8 * L + 1) = nI y := by rw [hC5.2 _ (by omega) (by omega) (by omega)]; exact y4
              have n132 : X 132 [some (.inr (.inr (5, 0, 0))), some (.inl (a 5 0 3 3)), some (.inl (nI (4 + 8 * L))), some (.inl (0 + 1 + 1))] [] f4 a5 := by
                refine fin f4 a5 _ (hF3'.tr hF4) hA5 (by rw [eR1]; exact hM5) w5100 (fun k => ?_)
                rw [eR1] at k ⊢
                have k1 : r.2.1 = 0 := stk (T := T) (fun q => by rw [es]; exact taN_id hM4.2.2 q (ar P x)) k
                have hD4 := hD4 k1
                have hD5 := hD5 k
                dsimp only
                refine hR.app4 (by omega) n3 (by rw [upa_s, if_pos rfl, upd_s, if_pos rfl, eL]) ?_ ?_ ?_ ?_ (fun j hj => ?_)
                · rw [← eL, upa_s, if_pos rfl, upd_s, if_neg (by omega)]
                  exact x5
                · rw [← eL, upa_s, if_pos rfl, upd_s, if_neg (by omega)]
                  exact y5
                · rw [← eL]
                  unfold D3
                  rw [upa_s, if_pos rfl, upd_s, upd_s, upd_s, if_neg (by omega), if_neg (by omega), if_neg (by omega), hC5.2 _ (by omega) (by omega) (by omega), hC5.2 _ (by omega) (by omega) (by omega), hC5.2 _ (by omega) (by omega) (by omega)]
                  exact hD4
                · rw [← eL]
                  unfold D3
                  rw [upa_s, if_pos rfl, upd_s, upd_s, upd_s, if_neg (by omega), if_neg (by omega), if_neg (by omega)]
                  exact hD5
                · rw [← eL] at hj
                  rw [upa_s, if_pos rfl, upd_s, if_neg (by omega)]
                  exact w5 j hj
              have n85 : X 85 [some (.inr (.inr (5, 0, 0))), some (.inl (a 5 0 3 3)), some (.inl (nI (4 + 8 * L))), some (.inl (0 + 1 + 1))] [] f4 a5 := by
                refine hX [132] 60 _ _ _ _ _ ?_
                refine ⟨ix 1 (by decide), inA 101 (cxy a5 y5) rfl (by omega) (by decide), ⟨fun _ => n132, fun q => ?_⟩⟩
                have q : ¬ a5 5 0 3 (a5 5 0 3 (nI (4 + 8 * L) + nI 1).toNatClampNeg).toNatClampNeg ≤ nI 2 := q
                exact absurd ((i_le (ar_ a5 w5 _ y (cxy a5 y5) hy.2) rfl (by omega) (by decide)).mpr (by omega)) q
              exact n85
          exact n85
        · rw [if_pos z2] at eR1
          exact h f2 a3 hF12 hA3 (by rw [eR1]; exact hM2) (fun k => absurd (by rw [eR1] at k; exact k) z2)
      have z0 := hM2.zl
      rw [ea3] at go
      exact ⟨fun q => go.1 (z0.mp q), fun q => go.2 (fun k => q (z0.mpr k))⟩
    have loop : ∀ k, k ≤ 8 → ∀ a1, FA 3 a a1 → (∀ m, m < k → a1 5 0 3 (4 + 8 * L + m) = 0) → (∀ m, m < 4 + 8 * L ∨ m = 100 → a1 5 0 3 m = a 5 0 3 m) → X 22 [some (.inr (.inr (5, 0, 0))), some (.inl (a 5 0 3 3)), some (.inl (nI (4 + 8 * L))), some (.inl (nI k))] [] f a1 := by
      refine forUp (Pr := fun k => ∀ a1, FA 3 a a1 → (∀ m, m < k → a1 5 0 3 (4 + 8 * L + m) = 0) → (∀ m, m < 4 + 8 * L ∨ m = 100 → a1 5 0 3 m = a 5 0 3 m) → X 22 [some (.inr (.inr (5, 0, 0))), some (.inl (a 5 0 3 3)), some (.inl (nI (4 + 8 * L))), some (.inl (nI k))] [] f a1) ?_ ?_
      · intro k hk ih a1 hF hz hw
        refine hX [22] 40 _ _ _ _ _ ?_
        refine ⟨fun q => absurd ((i_le (show (8 : Int32) = nI 8 from rfl) rfl (by decide) (by omega)).mp q) (by omega), fun _ => ⟨ix k hk, ?_⟩⟩
        have K := ih (upa a1 5 0 3 (nI (4 + 8 * L) + nI k).toNatClampNeg 0) (hF.ua _ _) (fun m hm => by
          rw [upa_s, if_pos rfl, upd_s, cx k hk]
          by_cases z : 4 + 8 * L + m = 4 + 8 * L + k
          · rw [if_pos z]
          · rw [if_neg z]
            exact hz m (by omega)) (fun m hm => by
          rw [upa_s, if_pos rfl, upd_s, cx k hk, if_neg (by omega)]
          exact hw m hm)
        rw [← nI_1] at K
        exact K
      · intro a1 hF hz hw
        refine hX [43] 40 _ _ _ _ _ ?_
        exact ⟨fun _ => h43 a1 _ hF hz hw, fun q => absurd (by decide) q⟩
    refine hX [22] 60 _ _ _ _ _ ?_
    refine ⟨inA 101 (n := 3) rfl rfl (by decide) (by decide), i100, ?_⟩
    have K := loop 0 (Nat.zero_le _) a (FA.rf 3 a) (fun m hm => absurd hm (Nat.not_lt_zero m)) (fun m _ => rfl)
    rw [← ec] at K
    exact K
  · exact h.elim
theorem shX5_readCall : ∀ As f a Q, sX5_readCall As f a Q → ∃ i r, As = .inr (.inr (5, i, 0)) :: r := by
  intro As f a Q h
  unfold sX5_readCall at h
  split at h
  · exact ⟨_, _, rfl⟩
  · exact h.elim
theorem mX5_readCall {g : Gm} (hg : GmOK g) : MetC g yX5_readCall cX5_readCall 4 none 4 sX5_readCall := by
  refine MetC_of hg eX5_readCall (eokX5_readCall hg) (by decide +kernel) (fun av f a post h => ?_) rX5_readCall
  unfold sX5_readCall at h
  split at h
  · exact Nat.le_of_ble_eq_true rfl
  · exact h.elim
