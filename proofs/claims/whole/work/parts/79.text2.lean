def sX5_readLine : SP := fun As f a Q => match As with
  | [.inr (.inr (5, 0, 0))] => ∃ T σ P, LMT f a T σ ∧ σ.1 = 0 ∧ RM (a 5 0 3) P ∧ WF P ∧ ∀ f' a', FL f f' → FA 3 a a' → LMT f' a' T (lnN T σ P).1 → ((lnN T σ P).1.1 = 0 → RM (a' 5 0 3) (lnN T σ P).2) → Q none f' a'
  | _ => False
def eX5_readLine : En := (tX5_readLine, [(118, false, 1, sX5_wordNow), (108, false, 3, sX5_requires), (115, false, 1, sX5_reads), (122, false, 3, sX5_readNumber), (133, false, 1, sX5_readCall)], fdX5, [], 2)
theorem eokX5_readLine {g : Gm} (hg : GmOK g) : EnvOK g 5 RX5 cX5_readLine none eX5_readLine := ⟨okX5_readLine, fun _ _ _ _ h => as2_all (P := fun i v => CallOK g 5 RX5 i v.1 v.2.1 v.2.2) (l := eX5_readLine.2.1) ⟨callV_ok (t := 5) hg (mX5_wordNow hg) kX5_wordNow mlX5_118 qX5_wordNow.1 qX5_wordNow.2 ⟨by decide, by decide⟩ ⟨_, _, rfl⟩ shX5_wordNow, callV_ok (t := 5) hg (mX5_requires hg) kX5_requires mlX5_108 qX5_requires.1 qX5_requires.2 ⟨by decide, by decide⟩ ⟨_, _, rfl⟩ shX5_requires, callV_ok (t := 5) hg (mX5_reads hg) kX5_reads mlX5_115 qX5_reads.1 qX5_reads.2 ⟨by decide, by decide⟩ ⟨_, _, rfl⟩ shX5_reads, callV_ok (t := 5) hg (mX5_readNumber hg) kX5_readNumber mlX5_122 qX5_readNumber.1 qX5_readNumber.2 ⟨by decide, by decide⟩ ⟨_, _, rfl⟩ shX5_readNumber, callV_ok (t := 5) hg (mX5_readCall hg) kX5_readCall mlX5_133 qX5_readCall.1 qX5_readCall.2 ⟨by decide, by decide⟩ ⟨_, _, rfl⟩ shX5_readCall, trivial⟩ h, fdX5_ok, (fun _ _ h => by cases h), rfl⟩
theorem rX5_readLine (av : List AV) (f : FF) (a : AA) (post : PT) (h : sX5_readLine av f a post) (X : XT) (hX : Clo eX5_readLine post X) : X 0 (padL 2 (ent av)) [] f a := by
  unfold sX5_readLine at h
  split at h
  · obtain ⟨T, σ, P, hM, h0, hR, hW, h⟩ := h
    have n3 := hW.l3
    have n12 := hW.l12
    have hlok := lnN_lok (P := P) hM.2.2
    obtain ⟨R, eR⟩ : ∃ R, R = lnN T σ P := ⟨_, rfl⟩
    rw [← eR] at h hlok
    have i3 : vp_in 3 (al 5 3) := inA 101 (n := 3) rfl rfl (by decide) (by decide)
    have i100 : vp_in 100 (al 5 3) := inA 101 (n := 100) rfl rfl (by decide) (by decide)
    obtain ⟨w, ew⟩ : ∃ w, w = wnI T σ := ⟨_, rfl⟩
    have c0 : w = 0 ↔ nmB T σ 0 = true := by rw [ew]; exact wn0
    have c1 : w = 1 ↔ nmB T σ 1 = true := by rw [ew]; exact wn1
    have l3 : 3 ≤ a 5 0 3 3 ↔ 3 ≤ P.1.length := i_le (show (3 : Int32) = nI 3 from rfl) hR.1 (by decide) (by omega)
    have l12 : 12 ≤ a 5 0 3 100 ↔ 12 ≤ P.2.length := i_le (show (12 : Int32) = nI 12 from rfl) hR.2.1 (by decide) (by omega)
    -- the line's end
    have h125 : ∀ (f2 : FF) (a2 : AA) (τ : Lx), FL f f2 → FA 3 a a2 → LMT f2 a2 T τ → tlS T τ = R.1 → (R.1.1 = 0 → RM (a2 5 0 3) R.2) → X 125 [some (.inr (.inr (5, 0, 0))), some (.inl w)] [] f2 a2 := by
      intro f2 a2 τ hF hA hM2 et hRM
      have h151 : ∀ (f3 : FF) (τ1 : Lx), FL f f3 → LMT f3 a2 T τ1 → stepN T τ1 = R.1 → X 151 [some (.inr (.inr (5, 0, 0))), some (.inl w)] [] f3 a2 := by
        intro f3 τ1 hF3 hM3 es
        refine hX [] 40 _ _ _ _ _ ?_
        refine ⟨T, τ1, hM3.1, hM3.2.1.1, hM3.2.2.l0, fun _ => hM3.2.1, fun z => (hM3.2.1.2.2.2 z).1, fun f4 hF4 hM4 => ?_⟩
        rw [es] at hM4
        exact h f4 a2 (hF3.tr hF4) hA (hM3.go hF4 rfl hM4 hlok) hRM
      refine hX [151] 60 _ _ _ _ _ ?_
      refine ⟨fun q => ?_, fun q => ?_⟩
      · have q : τ.1 ≠ 0 := fun z => q (hM2.z.mpr z)
        exact h151 f2 τ hF hM2 (by rw [step_id q, ← et, tlS_id hM2.2.2 q])
      · have q := hM2.z.mp q
        have c7 := (hM2.s q (n := 7) (by decide) (x := 7) rfl).trans (sr_sg hM2.2.2).2.2.2.2
        have K : ∀ (b : Bool) (g : Int32), g = b2i b → (b = true ↔ sgB T τ 59 = true) → (¬ (g = 0 ∧ f2 5 0 10 = 0) → X 151 [some (.inr (.inr (5, 0, 0))), some (.inl w)] [] f2 a2) ∧ (g = 0 ∧ f2 5 0 10 = 0 → X 151 [some (.inr (.inr (5, 0, 0))), some (.inl w)] [] (upf (upf f2 5 0 10 2) 5 0 11 (f2 5 0 7)) a2) := fun b g hg hbk => by
          refine req (n := 2) (R := fun f' => X 151 [some (.inr (.inr (5, 0, 0))), some (.inl w)] [] f' a2) hM2 hg rfl (by decide) (by decide) (fun f3 hF3 hM3 => ?_)
          cases b with
          | true =>
            refine h151 f3 τ (hF.tr hF3) hM3 ?_
            rw [← et]
            unfold tlS
            rw [if_pos (hbk.mp rfl)]
          | false =>
            have hM3 : LMT f3 a2 T (refN 2 τ) := hM3
            refine h151 f3 (refN 2 τ) (hF.tr hF3) hM3 ?_
            rw [step_id (ref_f (by decide) τ), ← et]
            unfold tlS
            rw [if_neg (fun z => absurd (hbk.mpr z) (by decide))]
        refine ⟨fun q2 => ?_, fun q2 => ?_⟩
        · exact K false 0 rfl ⟨fun z => absurd z (by decide), fun z => absurd (c7.mpr z) q2⟩
        · exact K true 1 rfl ⟨fun _ => c7.mp q2, fun _ => rfl⟩
    -- behind the checks
    have h75 : ∀ (f1 : FF) (τ : Lx), FL f f1 → LMT f1 a T τ → (τ.1 = 0 → τ = σ ∧ (nmB T σ 0 = true ∨ nmB T σ 1 = true) ∧ (nmB T σ 0 = true → P.1.length < 3) ∧ (nmB T σ 1 = true → P.2.length < 12)) → (τ.1 ≠ 0 → τ = R.1) → X 75 [some (.inr (.inr (5, 0, 0))), some (.inl w)] [] f1 a := by
      intro f1 τ hF hM1 t0 t1
      refine hX [125] 60 _ _ _ _ _ ?_
      refine ⟨T, τ, hM1.1, hM1.2.1.1, hM1.2.2.l0, fun _ => hM1.2.1, fun z => (hM1.2.1.2.2.2 z).1, fun f2 hF2 hL2 => ?_⟩
      have hM2 : LMT f2 a T (stepN T τ) := hM1.go hF2 rfl hL2 hM1.2.2.step
      have hF' := hF.tr hF2
      by_cases z : τ.1 = 0
      · obtain ⟨rfl, hor, b3, b12⟩ := t0 z
        refine ⟨fun q => ?_, fun q => ?_⟩
        · have q := hM2.zl.mp q
          refine ⟨fun k => ?_, fun k => ?_⟩
          · have k1 : nmB T τ 1 = true := hor.resolve_left (fun y => k (c0.mpr y))
            have l := b12 k1
            have eR2 : R = (tlS T (tcA T (stepN T τ) P).1, (tcA T (stepN T τ) P).2) := by
              rw [eR]
              unfold lnN
              rw [if_neg (fun y => k (c0.mpr y)), if_pos k1, tcN_A hM1.2.2 l]
            refine ⟨T, stepN T τ, P, hM2, q, hR, hW, l, fun f3 a3 hF3 hA3 hM3 hRM => ?_⟩
            refine h125 f3 a3 _ (hF'.tr hF3) hA3 hM3 (by rw [eR2]) (fun y => ?_)
            rw [eR2] at y ⊢
            exact hRM (tlS_0 (tcA_lok hM2.2.2) y)
          · have k0 : nmB T τ 0 = true := c0.mp (by first | exact k | exact Decidable.not_not.mp k)
            have l := b3 k0
            have eR2 : R = (tlS T (tnS T 1 3 (stepN T τ)), (P.1 ++ [tnV T 1 3 (stepN T τ)], P.2)) := by
              rw [eR]
              unfold lnN tfN
              rw [if_pos k0, if_neg (by omega)]
            refine ⟨i3, T, stepN T τ, 1, 3, hM2, rfl, by decide, by decide, by decide, fun f3 v hF3 hM3 hv hvb => ?_⟩
            have e3 : (a 5 0 3 3).toNatClampNeg = P.1.length := by rw [hR.1, nI_clamp (by omega)]
            refine ⟨inA 101 hR.1 rfl (by omega) (by decide), i3, i3, ?_⟩
            have hA3 : FA 3 a (upa (upa a 5 0 3 P.1.length v) 5 0 3 3 (nI (P.1.length + 1))) := ((FA.rf 3 a).ua _ _).ua _ _
            have e4 : upa a 5 0 3 P.1.length v 5 0 3 3 + 1 = nI (P.1.length + 1) := by
              rw [upa_s, if_pos rfl, upd_s, if_neg (by omega), hR.1, nI_1]
            have K := h125 f3 (upa (upa a 5 0 3 P.1.length v) 5 0 3 3 (nI (P.1.length + 1))) (tnS T 1 3 (stepN T τ)) (hF'.tr hF3) hA3 (hM3.fc hA3.r4) (by rw [eR2]) (fun y => by
              rw [eR2] at y ⊢
              have y := tlS_0 hM3.2.2 y
              rw [hv y]
              exact hR.opn l (by rw [upa_s, if_pos rfl, upd_s, if_pos rfl]) (by rw [upa_s, if_pos rfl, upd_s, if_neg (by omega), upa_s, if_pos rfl, upd_s, if_pos rfl]) (fun j h1 h2 => by rw [upa_s, if_pos rfl, upd_s, if_neg h1, upa_s, if_pos rfl, upd_s, if_neg h2]))
            rw [← e4, ← e3] at K
            exact K
        · have q : (stepN T τ).1 ≠ 0 := fun z => q (hM2.zl.mpr z)
          have eR2 : R.1 = stepN T τ := by
            rw [eR]
            unfold lnN
            by_cases k0 : nmB T τ 0 = true
            · rw [if_pos k0]
              unfold tfN
              rw [if_neg (by have := b3 k0; omega)]
              show tlS T (tnS T 1 3 (stepN T τ)) = _
              rw [tnS_id hM2.2.2 q, tlS_id hM2.2.2 q]
            · have k1 : nmB T τ 1 = true := hor.resolve_left k0
              rw [if_neg k0, if_pos k1, tcN_A hM1.2.2 (b12 k1)]
              unfold tcA
              rw [tnS_id hM2.2.2 q, tnS_id hM2.2.2 q, if_pos q]
              show tlS T (stepN T τ) = _
              rw [tlS_id hM2.2.2 q]
          exact h f2 a hF' (FA.rf 3 a) (by rw [eR2]; exact hM2) (fun y => absurd (by rw [eR2] at y; exact y) q)
      · have e := t1 z
        rw [step_id z] at hM2
        refine ⟨fun q => absurd (hM2.zl.mp q) z, fun _ => ?_⟩
        exact h f2 a hF' (FA.rf 3 a) (by rw [← e]; exact hM2) (fun y => absurd (by rw [← e] at y; exact y) z)
    have h48 : ∀ (f1 : FF) (τ : Lx), FL f f1 → LMT f1 a T τ → (τ.1 = 0 → τ = σ ∧ (nmB T σ 0 = true ∨ nmB T σ 1 = true) ∧ (nmB T σ 0 = true → P.1.length < 3)) → (τ.1 ≠ 0 → τ = R.1) → X 48 [some (.inr (.inr (5, 0, 0))), some (.inl w)] [] f1 a := by
      intro f1 τ hF hM1 t0 t1
      have K : ∀ (b : Bool) (g : Int32), g = b2i b → (b = true ↔ (nmB T σ 1 = true → P.2.length < 12)) → (¬ (g = 0 ∧ f1 5 0 10 = 0) → X 75 [some (.inr (.inr (5, 0, 0))), some (.inl w)] [] f1 a) ∧ (g = 0 ∧ f1 5 0 10 = 0 → X 75 [some (.inr (.inr (5, 0, 0))), some (.inl w)] [] (upf (upf f1 5 0 10 5) 5 0 11 (f1 5 0 7)) a) := fun b g hg hbk => by
        refine req (n := 5) (R := fun f' => X 75 [some (.inr (.inr (5, 0, 0))), some (.inl w)] [] f' a) hM1 hg rfl (by decide) (by decide) (fun f3 hF3 hM3 => ?_)
        cases b with
        | true => exact h75 f3 τ (hF.tr hF3) hM3 (fun z => ⟨(t0 z).1, (t0 z).2.1, (t0 z).2.2, hbk.mp rfl⟩) t1
        | false =>
          have hM3 : LMT f3 a T (refN 5 τ) := hM3
          by_cases z : τ.1 = 0
          · obtain ⟨rfl, hor, b3⟩ := t0 z
            have nb : ¬ (nmB T τ 1 = true → P.2.length < 12) := fun z => absurd (hbk.mpr z) (by decide)
            have k1 : nmB T τ 1 = true := by
              cases hk : nmB T τ 1 with
              | true => rfl
              | false => exact absurd (fun y => by rw [hk] at y; cases y) nb
            refine h75 f3 (refN 5 τ) (hF.tr hF3) hM3 (fun y => absurd y (ref_f (by decide) τ)) (fun _ => ?_)
            have k0 : ¬ nmB T τ 0 = true := fun y => by have := (nm0 T τ).mp y; have := (nm1 T τ).mp k1; omega
            rw [eR]
            unfold lnN tcN
            rw [if_neg k0, if_pos k1, if_pos (by have : ¬ P.2.length < 12 := fun y => nb (fun _ => y); omega)]
          · rw [ref_id hM1.2.2 z] at hM3
            exact h75 f3 τ (hF.tr hF3) hM3 (fun y => absurd y z) t1
      refine hX [75] 60 _ _ _ _ _ ?_
      refine ⟨fun q => ?_, fun q => ⟨i100, ⟨fun q2 => ?_, fun q2 => ?_⟩⟩⟩
      · exact K true 1 rfl ⟨fun _ y => absurd (c1.mpr y) q, fun _ => rfl⟩
      · exact K false 0 rfl ⟨fun z => absurd z (by decide), fun z => absurd (z (c1.mp q)) (by have := l12.mp q2; omega)⟩
      · exact K true 1 rfl ⟨fun _ _ => by have : ¬ 12 ≤ P.2.length := fun y => q2 (l12.mpr y); omega, fun _ => rfl⟩
    have h24 : ∀ (f1 : FF) (τ : Lx), FL f f1 → LMT f1 a T τ → (τ.1 = 0 → τ = σ ∧ (nmB T σ 0 = true ∨ nmB T σ 1 = true)) → (τ.1 ≠ 0 → τ = R.1) → X 24 [some (.inr (.inr (5, 0, 0))), some (.inl w)] [] f1 a := by
      intro f1 τ hF hM1 t0 t1
      have K : ∀ (b : Bool) (g : Int32), g = b2i b → (b = true ↔ (nmB T σ 0 = true → P.1.length < 3)) → (¬ (g = 0 ∧ f1 5 0 10 = 0) → X 48 [some (.inr (.inr (5, 0, 0))), some (.inl w)] [] f1 a) ∧ (g = 0 ∧ f1 5 0 10 = 0 → X 48 [some (.inr (.inr (5, 0, 0))), some (.inl w)] [] (upf (upf f1 5 0 10 5) 5 0 11 (f1 5 0 7)) a) := fun b g hg hbk => by
        refine req (n := 5) (R := fun f' => X 48 [some (.inr (.inr (5, 0, 0))), some (.inl w)] [] f' a) hM1 hg rfl (by decide) (by decide) (fun f3 hF3 hM3 => ?_)
        cases b with
        | true => exact h48 f3 τ (hF.tr hF3) hM3 (fun z => ⟨(t0 z).1, (t0 z).2, hbk.mp rfl⟩) t1
        | false =>
          have hM3 : LMT f3 a T (refN 5 τ) := hM3
          by_cases z : τ.1 = 0
          · obtain ⟨rfl, hor⟩ := t0 z
            have nb : ¬ (nmB T τ 0 = true → P.1.length < 3) := fun z => absurd (hbk.mpr z) (by decide)
            have k0 : nmB T τ 0 = true := by
              cases hk : nmB T τ 0 with
              | true => rfl
              | false => exact absurd (fun y => by rw [hk] at y; cases y) nb
            refine h48 f3 (refN 5 τ) (hF.tr hF3) hM3 (fun y => absurd y (ref_f (by decide) τ)) (fun _ => ?_)
            rw [eR]
            unfold lnN tfN
            rw [if_pos k0, if_pos (by have : ¬ P.1.length < 3 := fun y => nb (fun _ => y); omega)]
          · rw [ref_id hM1.2.2 z] at hM3
            exact h48 f3 τ (hF.tr hF3) hM3 (fun y => absurd y z) t1
      refine hX [48] 60 _ _ _ _ _ ?_
      refine ⟨fun q => ?_, fun q => ⟨i3, ⟨fun q2 => ?_, fun q2 => ?_⟩⟩⟩
      · exact K true 1 rfl ⟨fun _ y => absurd (c0.mpr y) q, fun _ => rfl⟩
      · have q := c0.mp (by first | exact q | exact Decidable.not_not.mp q)
        exact K false 0 rfl ⟨fun z => absurd z (by decide), fun z => absurd (z q) (by have := l3.mp q2; omega)⟩
      · exact K true 1 rfl ⟨fun _ _ => by have : ¬ 3 ≤ P.1.length := fun y => q2 (l3.mpr y); omega, fun _ => rfl⟩
    have K : ∀ (b : Bool) (g : Int32), g = b2i b → (b = true ↔ (nmB T σ 0 = true ∨ nmB T σ 1 = true)) → (¬ (g = 0 ∧ f 5 0 10 = 0) → X 24 [some (.inr (.inr (5, 0, 0))), some (.inl w)] [] f a) ∧ (g = 0 ∧ f 5 0 10 = 0 → X 24 [some (.inr (.inr (5, 0, 0))), some (.inl w)] [] (upf (upf f 5 0 10 2) 5 0 11 (f 5 0 7)) a) := fun b g hg hbk => by
      refine req (n := 2) (R := fun f' => X 24 [some (.inr (.inr (5, 0, 0))), some (.inl w)] [] f' a) hM hg rfl (by decide) (by decide) (fun f3 hF3 hM3 => ?_)
      cases b with
      | true => exact h24 f3 σ hF3 hM3 (fun z => ⟨rfl, hbk.mp rfl⟩) (fun z => absurd h0 z)
      | false =>
        have hM3 : LMT f3 a T (refN 2 σ) := hM3
        have nb : ¬ (nmB T σ 0 = true ∨ nmB T σ 1 = true) := fun z => absurd (hbk.mpr z) (by decide)
        refine h24 f3 (refN 2 σ) hF3 hM3 (fun y => absurd y (ref_f (by decide) σ)) (fun _ => ?_)
        rw [eR]
        unfold lnN
        rw [if_neg (fun y => nb (Or.inl y)), if_neg (fun y => nb (Or.inr y))]
    refine hX [24] 60 _ _ _ _ _ ?_
    refine ⟨T, σ, hM, fun w' hw' => ?_⟩
    have hw' : w' = w := by rw [ew]; exact hw' h0
    subst hw'
    refine ⟨fun q => ?_, fun q => ⟨fun q2 => ?_, fun q2 => ?_⟩⟩
    · exact K true 1 rfl ⟨fun _ => Or.inl (c0.mp q), fun _ => rfl⟩
    · exact K false 0 rfl ⟨fun z => absurd z (by decide), fun z => absurd z (fun z => z.elim (fun y => q (c0.mpr y)) (fun y => q2 (c1.mpr y)))⟩
    · exact K true 1 rfl ⟨fun _ => Or.inr (c1.mp q2), fun _ => rfl⟩
  · exact h.elim
theorem shX5_readLine : ∀ As f a Q, sX5_readLine As f a Q → ∃ i r, As = .inr (.inr (5, i, 0)) :: r := by
  intro As f a Q h
  unfold sX5_readLine at h
  split at h
  · exact ⟨_, _, rfl⟩
  · exact h.elim
theorem mX5_readLine {g : Gm} (hg : GmOK g) : MetC g yX5_readLine cX5_readLine 2 none 5 sX5_readLine := by
  refine MetC_of hg eX5_readLine (eokX5_readLine hg) (by decide +kernel) (fun av f a post h => ?_) rX5_readLine
  unfold sX5_readLine at h
  split at h
  · exact Nat.le_of_ble_eq_true rfl
  · exact h.elim
