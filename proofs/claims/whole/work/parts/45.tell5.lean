/-! a call's line, the text -/
def sX3_tellCall : SP := fun As f a Q => match As with
  | [.inr (.inr (3, 0, 0)), .inr (.inr (1, 1, 0))] => ∃ T σ P, LT f a T σ ∧ σ.1 = 0 ∧ DR f a P σ ∧ ∀ f' a', FD f a f' a' → LT f' a' T (tcN T σ P).1 → DR f' a' (tcN T σ P).2 (tcN T σ P).1 → Q none f' a'
  | _ => False
def eX3_tellCall : En := (tX3_tellCall, [(43, false, 2, sX3_refuse), (22, false, 1, sX3_step), (52, false, 3, sX3_takeNumber), (65, false, 3, sX1_appendCall), (73, false, 2, sX3_takeArgument), (77, false, 4, sX1_putArgument), (56, false, 1, sX3_takeLineEnd)], fdX3, [], 2)
theorem eokX3_tellCall {g : Gm} (hg : GmOK g) : EnvOK g 8 RX3 cX3_tellCall none eX3_tellCall := ⟨okX3_tellCall, fun _ _ _ _ h => as2_all (P := fun i v => CallOK g 8 RX3 i v.1 v.2.1 v.2.2) (l := eX3_tellCall.2.1) ⟨callV_ok (t := 3) hg (mX3_refuse hg) kX3_refuse mlX3_43 qX3_refuse.1 qX3_refuse.2 ⟨by decide, by decide⟩ ⟨_, _, rfl⟩ shX3_refuse, callV_ok (t := 3) hg (mX3_step hg) kX3_step mlX3_22 qX3_step.1 qX3_step.2 ⟨by decide, by decide⟩ ⟨_, _, rfl⟩ shX3_step, callV_ok (t := 3) hg (mX3_takeNumber hg) kX3_takeNumber mlX3_52 qX3_takeNumber.1 qX3_takeNumber.2 ⟨by decide, by decide⟩ ⟨_, _, rfl⟩ shX3_takeNumber, callV_ok (t := 1) hg (mX1_appendCall hg) kX1_appendCall mlX3_65 qX1_appendCall.1 qX1_appendCall.2 ⟨by decide, by decide⟩ ⟨_, _, rfl⟩ shX1_appendCall, callV_ok (t := 3) hg (mX3_takeArgument hg) kX3_takeArgument mlX3_73 qX3_takeArgument.1 qX3_takeArgument.2 ⟨by decide, by decide⟩ ⟨_, _, rfl⟩ shX3_takeArgument, callV_ok (t := 1) hg (mX1_putArgument hg) kX1_putArgument mlX3_77 qX1_putArgument.1 qX1_putArgument.2 ⟨by decide, by decide⟩ ⟨_, _, rfl⟩ shX1_putArgument, callV_ok (t := 3) hg (mX3_takeLineEnd hg) kX3_takeLineEnd mlX3_56 qX3_takeLineEnd.1 qX3_takeLineEnd.2 ⟨by decide, by decide⟩ ⟨_, _, rfl⟩ shX3_takeLineEnd, trivial⟩ h, fdX3_ok, (fun _ _ h => by cases h), rfl⟩
theorem AB.u3 {a : AA} (h : AB (a 1 1)) (n : Nat) (x : Int32) : AB (upa a 1 1 3 n x 1 1) := by
  intro i hi
  rw [upa_s, if_neg (by decide)]
  exact h i hi
theorem AB.ap {a : AA} (h : AB (a 1 1)) (n : Nat) (x y : Int32) : AB (apC a 1 n x y 1 1) := by
  intro i hi
  unfold apC
  rw [upa_s, if_neg (by decide), upa_s, if_neg (by decide), upa_s, if_neg (by decide), upa_s, if_neg (by decide)]
  exact h i hi
theorem FD.ap {f f' : FF} {a a' : AA} (h : FD f a f' a') (n : Nat) (x y : Int32) : FD f a f' (apC a' 1 n x y) := (((h.ua 1 n x).ua 2 n y).ua 3 _ 0).ua 3 _ 0
theorem FD.at3 {f f' : FF} {a a' : AA} (h : FD f a f' a') : a' 3 0 = a 3 0 := h.2 3 0 (by decide)
theorem rX3_tellCall (av : List AV) (f : FF) (a : AA) (post : PT) (h : sX3_tellCall av f a post) (X : XT) (hX : Clo eX3_tellCall post X) : X 0 (padL 6 (ent av)) [] f a := by
  unfold sX3_tellCall at h
  split at h
  · obtain ⟨T, σ, P, hL, h0, hD, h⟩ := h
    obtain ⟨hR, hW⟩ := hD.2.2 h0
    have hl3 := hW.1
    have hl12 := hW.2.1
    have c1 : f 1 1 5 < 12 ↔ P.2.length < 12 := i_lt hR.2.1 (show (12 : Int32) = nI 12 from rfl) (by omega) (by decide)
    refine hX [58] 90 _ _ _ _ _ ?_
    refine ⟨fun d => ?_, fun d => ?_⟩
    · have d := c1.mp d
      refine ⟨T, σ, hL.1, hL.2.1, hL.2.2.1, hL.2.2.2.l0, fun f1 hF1 h1 => ?_⟩
      have hL1 := hL.stp hF1 h1
      have e4 : ∀ f', F3 f f' → f' 1 1 = f 1 1 := fun f' hF => hF.o (by decide)
      refine ⟨T, stepN T σ, 0, P.1.length, rfl, ?_, by decide, by omega, hL1, fun f2 hF2 hL2 => ?_⟩
      · show f1 1 1 4 - 1 = _
        rw [e4 f1 hF1, hR.1]
      refine ⟨T, _, 0, P.1.length, rfl, ?_, by decide, by omega, hL2, fun f3 hF3 hL3 => ?_⟩
      · show f2 1 1 4 - 1 = _
        rw [e4 f2 (hF1.tr hF2), hR.1]
      have hF := (hF1.tr hF2).tr hF3
      have e11 := e4 f3 hF
      obtain ⟨x, ex⟩ : ∃ x, x = tnV T 0 P.1.length (stepN T σ) := ⟨_, rfl⟩
      obtain ⟨y, ey⟩ : ∃ y, y = tnV T 0 P.1.length (tnS T 0 P.1.length (stepN T σ)) := ⟨_, rfl⟩
      obtain ⟨τ, eτ⟩ : ∃ τ, τ = tnS T 0 P.1.length (tnS T 0 P.1.length (stepN T σ)) := ⟨_, rfl⟩
      have hx3 : x < 3 := by
        have := @tnV_le T (stepN T σ) 0 P.1.length
        omega
      have hy3 : y < 3 := by
        have := @tnV_le T (tnS T 0 P.1.length (stepN T σ)) 0 P.1.length
        omega
      have hx0 : τ.1 = 0 → x < P.1.length := fun z => by
        rw [ex]
        rw [eτ] at z
        exact (tnV_in (stk (T := T) (fun q => tnS_id (hL1.2.2.2.tn _ _) q _ _) z)).2
      have hy0 : τ.1 = 0 → y < P.1.length := fun z => by
        rw [ey]
        rw [eτ] at z
        exact (tnV_in z).2
      unfold tcN at h
      simp only [if_neg (Nat.not_le.mpr d), ← ex, ← ey, ← eτ] at h
      rw [← eτ] at hL3
      rw [← ex, ← ey]
      obtain ⟨my, hmy, emy⟩ := hD.1 y hy3
      obtain ⟨mx, hmx, emx⟩ := hD.1 x hx3
      have it : ∀ (k : Nat) (g : FF) (b : AA) (ρ : Lx), k < my → b 1 1 0 = a 1 1 0 → LT g b T ρ → (∀ g', F3 g g' → LT g' (upa b 1 1 3 (2 * P.2.length + k) (nI (taN T mx ρ).1)) T (taN T mx ρ).2 → X 58 [some (.inr (.inr (3, 0, 0))), some (.inr (.inr (1, 1, 0))), some (.inl (nI x)), some (.inl (nI y)), some (.inl (nI P.2.length)), some (.inl (nI (k + 1)))] [] g' (upa b 1 1 3 (2 * P.2.length + k) (nI (taN T mx ρ).1))) →
          X 58 [some (.inr (.inr (3, 0, 0))), some (.inr (.inr (1, 1, 0))), some (.inl (nI x)), some (.inl (nI y)), some (.inl (nI P.2.length)), some (.inl (nI k))] [] g b := by
        intro k g b ρ hk eb hLg K
        refine hX [58] 60 _ _ _ _ _ ?_
        have ey' : b 1 1 0 (nI y).toNatClampNeg = nI my := by rw [eb, nI_clamp (by omega)]; exact emy
        have ex' : b 1 1 0 (nI x).toNatClampNeg = nI mx := by rw [eb, nI_clamp (by omega)]; exact emx
        refine ⟨inA 3 rfl rfl hy3 (by decide), ⟨fun q => absurd ((i_le ey' rfl (by omega) (by omega)).mp q) (by omega), fun q => ?_⟩⟩
        refine ⟨inA 3 rfl rfl hx3 (by decide), T, ρ, mx, ex', hmx, hLg, fun g1 hF1 hLg1 => ?_⟩
        refine ⟨P.2.length, k, rfl, rfl, by omega, ?_⟩
        have := K g1 hF1 (hLg1.of rfl (upa_o _ _ (by decide)))
        rw [← nI_1] at this
        exact this
      have ot : ∀ (g : FF) (b : AA) (ρ : Lx), b 1 1 0 = a 1 1 0 → LT g b T ρ → (∀ g', F3 g g' → LT g' b T (tlS T ρ) → post none g' b) →
          X 58 [some (.inr (.inr (3, 0, 0))), some (.inr (.inr (1, 1, 0))), some (.inl (nI x)), some (.inl (nI y)), some (.inl (nI P.2.length)), some (.inl (nI my))] [] g b := by
        intro g b ρ eb hLg K
        refine hX [] 60 _ _ _ _ _ ?_
        have ey' : b 1 1 0 (nI y).toNatClampNeg = nI my := by rw [eb, nI_clamp (by omega)]; exact emy
        refine ⟨inA 3 rfl rfl hy3 (by decide), ⟨fun q => ?_, fun q => absurd ((i_le ey' rfl (by omega) (by omega)).mpr (Nat.le_refl _)) q⟩⟩
        exact ⟨T, ρ, hLg, fun g1 hF1 hLg1 => K g1 hF1 hLg1⟩
      have e5 : f3 1 1 5 = nI P.2.length := by rw [e11]; exact hR.2.1
      refine ⟨P.2.length, e5, d, ?_⟩
      have hFD : FD f a (upf f3 1 1 5 (nI (P.2.length + 1))) (apC a 1 P.2.length (nI x) (nI y)) := (((FD.rf f a).f3 hF).uf 5 _).ap _ _ _
      have hLA : LT (upf f3 1 1 5 (nI (P.2.length + 1))) (apC a 1 P.2.length (nI x) (nI y)) T τ := hL3.of (upf_o _ _ (by decide)) hFD.at3
      have e0 : apC a 1 P.2.length (nI x) (nI y) 1 1 0 = a 1 1 0 := by
        unfold apC
        rw [upa_s, if_neg (by decide), upa_s, if_neg (by decide), upa_s, if_neg (by decide), upa_s, if_neg (by decide)]
      have hR3 : RC (f3 1 1) (a 1 1) P := by rw [e11]; exact hR
      have hRA := hR3.app (x := x) (y := y)
      obtain ⟨g0, eg0⟩ : ∃ g0, g0 = upf f3 1 1 5 (nI (P.2.length + 1)) := ⟨_, rfl⟩
      obtain ⟨b0, eb0⟩ : ∃ b0, b0 = apC a 1 P.2.length (nI x) (nI y) := ⟨_, rfl⟩
      rw [← eg0, ← eb0] at hFD hLA hRA
      rw [← eb0] at e0
      have go : X 58 [some (.inr (.inr (3, 0, 0))), some (.inr (.inr (1, 1, 0))), some (.inl (nI x)), some (.inl (nI y)), some (.inl (nI P.2.length)), some (.inl (nI 0))] [] g0 b0 := by
        by_cases hτ : τ.1 = 0
        · rw [if_neg (fun z => z hτ)] at h
          have hxl := hx0 hτ
          have hyl := hy0 hτ
          have ax := hW.2.2.1 x hxl
          have ay := hW.2.2.1 y hyl
          have dx : mx = ar P x := (nI_eq (by omega) (by omega)).mp (emx.symm.trans (hR.2.2.1 x hxl))
          have dy : my = ar P y := (nI_eq (by omega) (by omega)).mp (emy.symm.trans (hR.2.2.1 y hyl))
          rw [← dx, ← dy] at h
          rw [← dx] at ax
          rw [← dy] at ay
          obtain ⟨r, er⟩ : ∃ r, r = taN T mx τ := ⟨_, rfl⟩
          rw [← er] at h
          have la : ∀ q : Nat × Nat × Nat × Nat, P.2.length < (P.1, P.2 ++ [q]).2.length := fun q => by
            show _ < (P.2 ++ [q]).length
            rw [List.length_append]
            exact Nat.lt_succ_self _
          refine it 0 g0 b0 τ (by omega) e0 hLA (fun g1 hF1 hL1 => ?_)
          rw [← er] at hL1 ⊢
          have b1 : upa b0 1 1 3 (2 * P.2.length + 0) (nI r.1) 1 1 0 = a 1 1 0 := by rw [upa_s, if_neg (by decide)]; exact e0
          have hR1 : RC (g1 1 1) (upa b0 1 1 3 (2 * P.2.length + 0) (nI r.1) 1 1) (P.1, P.2 ++ [(x, y, r.1, 0)]) := by
            have := hRA.stA (c := P.2.length) (k := 0) (x := r.1) (la _) (by decide)
            rw [set_app] at this
            rw [hF1.o (by decide)]
            exact this
          have hG1 : FD f a g1 (upa b0 1 1 3 (2 * P.2.length + 0) (nI r.1)) := (hFD.f3 hF1).ua 3 _ _
          have ct : ∀ g, F3 g1 g → ∃ m n, g 1 1 4 = nI m ∧ m ≤ 3 ∧ g 1 1 5 = nI n ∧ n ≤ 12 := fun g hg => ⟨P.1.length, P.2.length + 1, by rw [hg.o (by decide), hF1.o (by decide), eg0, upf_s, if_neg (by decide)]; exact hR3.1, hl3, by rw [hg.o (by decide), hF1.o (by decide), eg0, upf_s, if_pos rfl], by omega⟩
          have okr : r.2.1 = 0 → okA mx r.1 = true := fun z => by
            rw [er] at z ⊢
            exact taN_ok hLA.2.2.2 ax z
          rcases ay with ay | ay
          · have K := ot g1 _ r.2 b1 hL1 (fun g2 hF2 hL2 => by
              rw [if_neg (by omega)] at h
              refine h g2 _ (hG1.f3 hF2) hL2 ⟨fun i hi => by rw [b1]; exact hD.1 i hi, ct g2 hF2, fun z => ⟨?_, ?_⟩⟩
              · rw [hF2.o (by decide)]
                exact hR1
              · have z0 : r.2.1 = 0 := stk (T := T) (fun q => tlS_id hL1.2.2.2 q) z
                refine hW.app d ⟨hxl, hyl, ?_, ?_⟩
                · show okA (ar P x) r.1 = true
                  rw [← dx]
                  exact okr z0
                · show if ar P y = 2 then _ else (0 : Nat) = 0
                  rw [← dy, if_neg (by omega)])
            rw [ay] at K
            exact K
          · refine it 1 g1 _ r.2 (by omega) b1 hL1 (fun g2 hF2 hL2 => ?_)
            obtain ⟨w, ew⟩ : ∃ w, w = taN T mx r.2 := ⟨_, rfl⟩
            rw [← ew] at hL2 ⊢
            rw [if_pos ay, ← ew] at h
            have b2 : upa (upa b0 1 1 3 (2 * P.2.length + 0) (nI r.1)) 1 1 3 (2 * P.2.length + 1) (nI w.1) 1 1 0 = a 1 1 0 := by rw [upa_s, if_neg (by decide)]; exact b1
            have K := ot g2 _ w.2 b2 hL2 (fun g3 hF3 hL3 => by
              refine h g3 _ (((hG1.f3 hF2).ua 3 _ _).f3 hF3) hL3 ⟨fun i hi => by rw [b2]; exact hD.1 i hi, ct g3 (hF2.tr hF3), fun z => ⟨?_, ?_⟩⟩
              · have := hR1.stA (c := P.2.length) (k := 1) (x := w.1) (la _) (by decide)
                rw [set_app2] at this
                rw [hF3.o (by decide), hF2.o (by decide)]
                exact this
              · have z0 : w.2.1 = 0 := stk (T := T) (fun q => tlS_id hL2.2.2.2 q) z
                have okw : okA mx w.1 = true := by
                  rw [ew] at z0 ⊢
                  exact taN_ok hL1.2.2.2 ax z0
                have z1 : r.2.1 = 0 := stk (T := T) (fun q => by rw [ew]; exact taN_id hL1.2.2.2 q mx) z0
                refine hW.app d ⟨hxl, hyl, ?_, ?_⟩
                · show okA (ar P x) r.1 = true
                  rw [← dx]
                  exact okr z1
                · show if ar P y = 2 then okA (ar P x) w.1 = true else w.1 = 0
                  rw [← dy, if_pos ay, ← dx]
                  exact okw)
            rw [ay] at K
            exact K
        · rw [if_pos hτ] at h
          have key : ∀ d k g b, k + d = my → FD f a g b → g 1 1 = g0 1 1 → b 1 1 0 = a 1 1 0 → LT g b T τ → X 58 [some (.inr (.inr (3, 0, 0))), some (.inr (.inr (1, 1, 0))), some (.inl (nI x)), some (.inl (nI y)), some (.inl (nI P.2.length)), some (.inl (nI k))] [] g b := by
            intro d
            induction d with
            | zero =>
              intro k g b hk hG eg eb hLg
              have hk : k = my := by omega
              subst hk
              refine ot g b τ eb hLg (fun g1 hF1 hL1 => ?_)
              rw [tlS_id hLg.2.2.2 hτ] at hL1
              refine h g1 b (hG.f3 hF1) hL1 ⟨fun i hi => by rw [eb]; exact hD.1 i hi, ⟨P.1.length, P.2.length + 1, ?_, hl3, ?_, by omega⟩, fun z => absurd z hτ⟩
              · rw [hF1.o (by decide), eg, eg0, upf_s, if_neg (by decide)]
                exact hR3.1
              · rw [hF1.o (by decide), eg, eg0, upf_s, if_pos rfl]
            | succ d ih =>
              intro k g b hk hG eg eb hLg
              refine it k g b τ (by omega) eb hLg (fun g1 hF1 hL1 => ?_)
              rw [taN_id hLg.2.2.2 hτ] at hL1
              exact ih (k + 1) g1 _ (by omega) ((hG.f3 hF1).ua 3 _ _) (by rw [hF1.o (by decide)]; exact eg) (by rw [upa_s, if_neg (by decide)]; exact eb) hL1
          exact key my 0 g0 b0 (by omega) hFD rfl e0 hLA
      rw [eg0, eb0] at go
      rw [← e5] at go
      exact go
    · have d : ¬ P.2.length < 12 := fun z => d (c1.mpr z)
      unfold tcN at h
      simp only [if_pos (Nat.not_lt.mp d)] at h
      refine ⟨5, σ, rfl, hL.2.2.1, hL.2.2.2.1, fun f1 hF h1 => ?_⟩
      exact h f1 a ((FD.rf f a).f3 hF) (hL.ref (by decide) hF h1) (hD.f3 hF (fun _ => h0))
  · exact h.elim
theorem shX3_tellCall : ∀ As f a Q, sX3_tellCall As f a Q → ∃ i r, As = .inr (.inr (3, i, 0)) :: r := by
  intro As f a Q h
  unfold sX3_tellCall at h
  split at h
  · exact ⟨_, _, rfl⟩
  · exact h.elim
theorem mX3_tellCall {g : Gm} (hg : GmOK g) : MetC g yX3_tellCall cX3_tellCall 6 none 8 sX3_tellCall := by
  refine MetC_of hg eX3_tellCall (eokX3_tellCall hg) (by decide +kernel) (fun av f a post h => ?_) rX3_tellCall
  unfold sX3_tellCall at h
  split at h
  · exact Nat.le_of_ble_eq_true rfl
  · exact h.elim
