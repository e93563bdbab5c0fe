/-! the reference: an argument of the text -/
theorem sr_sg {T : List Nat} {τ : Lx} (h : LOK T τ) : (srN T τ = 3 ↔ sgB T τ 45 = true) ∧ (srN T τ = 4 ↔ sgB T τ 47 = true) ∧ (srN T τ = 5 ↔ sgB T τ 43 = true) ∧ (srN T τ = 6 ↔ sgB T τ 38 = true) ∧ (srN T τ = 7 ↔ sgB T τ 59 = true) := by
  unfold srN sgB
  by_cases k : τ.2.2.2 = 3
  · have h3 := (h.2.2.2.2.1 (by rw [k]; decide)).2
    have hc := h3.2 τ.2.1 (Nat.le_refl _) h3.1
    rw [k] at hc
    obtain ⟨c, ec⟩ : ∃ c, c = T.getD τ.2.1 0 := ⟨_, rfl⟩
    rw [← ec] at hc ⊢
    rw [if_pos k, decide_eq_true k]
    simp only [Bool.true_and, decide_eq_true_eq]
    have hs : c = 45 ∨ c = 47 ∨ c = 43 ∨ c = 38 ∨ c = 59 := by
      unfold tkN at hc
      split at hc
      · exact absurd hc (by decide)
      · split at hc
        · exact absurd hc (by decide)
        · split at hc
          · assumption
          · exact absurd hc (by decide)
    rcases hs with rfl | rfl | rfl | rfl | rfl <;> decide
  · have k4 := h.2.2.2.1
    rw [if_neg k, decide_eq_false k]
    simp only [Bool.false_and, Bool.false_eq_true, iff_false]
    omega
def FC (ci : Nat) (a a' : AA) : Prop := FA 3 a a' ∧ ∀ m, m ≠ ci → m ≠ ci + 1 → m ≠ ci + 2 → a' 5 0 3 m = a 5 0 3 m
theorem FC.rf (ci : Nat) (a : AA) : FC ci a a := ⟨FA.rf 3 a, fun _ _ _ _ => rfl⟩
theorem FC.ua {ci : Nat} {a a' : AA} (h : FC ci a a') {j : Nat} (hj : j = ci ∨ j = ci + 1 ∨ j = ci + 2) (x : Int32) : FC ci a (upa a' 5 0 3 j x) := ⟨h.1.ua _ _, fun m h0 h1 h2 => by
  rw [upa_s, if_pos rfl, upd_s, if_neg (by omega)]
  exact h.2 m h0 h1 h2⟩
theorem FC.r4 {ci : Nat} {a a' : AA} (h : FC ci a a') : a' 5 0 4 = a 5 0 4 := h.1.row (by decide)
theorem LMT.fc {f : FF} {a a' : AA} {T : List Nat} {σ : Lx} (h : LMT f a T σ) (ha : a' 5 0 4 = a 5 0 4) : LMT f a' T σ := h.go (FL.rf f) ha h.2.1 h.2.2
def D3 (w : Nat → Int32) (ci v : Nat) : Prop := w ci = nI (v / 100) ∧ w (ci + 1) = nI (v / 10 % 10) ∧ w (ci + 2) = nI (v % 10)
def sX5_readArgument : SP := fun As f a Q => match As with
  | [.inr (.inr (5, 0, 0)), .inl x, .inl y] => ∃ T σ n ci, LMT f a T σ ∧ x = nI ci ∧ ci + 2 < 101 ∧ y = nI n ∧ n < 3 ∧ a 5 0 3 (ci + 1) = 0 ∧ ∀ f' a', FL f f' → FC ci a a' → LMT f' a' T (taN T n σ).2 → ((taN T n σ).2.1 = 0 → D3 (a' 5 0 3) ci (taN T n σ).1) → Q none f' a'
  | _ => False
def eX5_readArgument : En := (tX5_readArgument, [(122, false, 3, sX5_readNumber), (126, false, 2, sX5_readValue), (115, false, 1, sX5_reads)], fdX5, [], 2)
theorem eokX5_readArgument {g : Gm} (hg : GmOK g) : EnvOK g 3 RX5 cX5_readArgument none eX5_readArgument := ⟨okX5_readArgument, fun _ _ _ _ h => as2_all (P := fun i v => CallOK g 3 RX5 i v.1 v.2.1 v.2.2) (l := eX5_readArgument.2.1) ⟨callV_ok (t := 5) hg (mX5_readNumber hg) kX5_readNumber mlX5_122 qX5_readNumber.1 qX5_readNumber.2 ⟨by decide, by decide⟩ ⟨_, _, rfl⟩ shX5_readNumber, callV_ok (t := 5) hg (mX5_readValue hg) kX5_readValue mlX5_126 qX5_readValue.1 qX5_readValue.2 ⟨by decide, by decide⟩ ⟨_, _, rfl⟩ shX5_readValue, callV_ok (t := 5) hg (mX5_reads hg) kX5_reads mlX5_115 qX5_reads.1 qX5_reads.2 ⟨by decide, by decide⟩ ⟨_, _, rfl⟩ shX5_reads, trivial⟩ h, fdX5_ok, (fun _ _ h => by cases h), rfl⟩
theorem rX5_readArgument (av : List AV) (f : FF) (a : AA) (post : PT) (h : sX5_readArgument av f a post) (X : XT) (hX : Clo eX5_readArgument post X) : X 0 (padL 6 (ent av)) [] f a := by
  unfold sX5_readArgument at h
  split at h
  · obtain ⟨T, σ, n, ci, hM, rfl, hci, rfl, hn, hz, h⟩ := h
    have ec : (nI ci).toNatClampNeg = ci := nI_clamp (by omega)
    have e1 : (nI ci + 1).toNatClampNeg = ci + 1 := by rw [nI_1, nI_clamp (by omega)]
    have e2 : (nI ci + 2).toNatClampNeg = ci + 2 := by rw [show (2 : Int32) = nI 2 from rfl, nI_add, nI_clamp (by omega)]
    have i0 : vp_in (nI ci) (al 5 3) := inA 101 rfl rfl (by omega) (by decide)
    have i1 : vp_in (nI ci + 1) (al 5 3) := inA 101 (nI_1 ci) rfl (by omega) (by decide)
    have i2 : vp_in (nI ci + 2) (al 5 3) := inA 101 (nI_add ci 2) rfl (by omega) (by decide)
    obtain ⟨R, eR⟩ : ∃ R, R = taN T n σ := ⟨_, rfl⟩
    rw [← eR] at h
    refine hX [84] 60 _ _ _ _ _ ?_
    refine ⟨fun q0 => ?_, fun q0 => ?_⟩
    · have q0 := hM.zl.mp q0
      have cs := (hM.s q0 (n := 2) (by decide) (x := 2) rfl).trans sr2
      refine ⟨fun q => ?_, fun q => ?_⟩
      · have q : ¬ σ.2.2.2 = 2 := fun z => q (cs.mpr z)
        unfold taN at eR
        rw [if_neg q] at eR
        refine ⟨T, σ, n, hM, rfl, hn, fun f1 v hF1 hM1 hv hv2 => ?_⟩
        obtain ⟨τ, eτ⟩ : ∃ τ, τ = tvS T n σ := ⟨_, rfl⟩
        rw [← eτ] at hM1 hv eR
        refine ⟨fun q1 => ?_, fun q1 => ?_⟩
        · have q1 := hM1.zl.mp q1
          have hv := hv q1
          have sg := sr_sg hM1.2.2
          refine ⟨i0, i1, i2, ?_⟩
          obtain ⟨a3, ea3⟩ : ∃ a3, a3 = upa (upa (upa a 5 0 3 ci 1) 5 0 3 (ci + 1) (nI v)) 5 0 3 (ci + 2) 0 := ⟨_, rfl⟩
          have hC3 : FC ci a a3 := by
            rw [ea3]
            exact (((FC.rf ci a).ua (Or.inl rfl) _).ua (Or.inr (Or.inl rfl)) _).ua (Or.inr (Or.inr rfl)) _
          have r0 : a3 5 0 3 ci = 1 := by rw [ea3, upa_s, if_pos rfl, upd_s, if_neg (by omega), upa_s, if_pos rfl, upd_s, if_neg (by omega), upa_s, if_pos rfl, upd_s, if_pos rfl]
          have r1 : a3 5 0 3 (ci + 1) = nI v := by rw [ea3, upa_s, if_pos rfl, upd_s, if_neg (by omega), upa_s, if_pos rfl, upd_s, if_pos rfl]
          have r2 : a3 5 0 3 (ci + 2) = 0 := by rw [ea3, upa_s, if_pos rfl, upd_s, if_pos rfl]
          have hM3 : LMT f1 a3 T τ := hM1.fc hC3.r4
          have go : X 84 [some (.inr (.inr (5, 0, 0))), some (.inl (nI ci)), some (.inl (nI n)), some (.inl (nI v)), some (.inl (f1 5 0 8)), none] [] f1 a3 := by
            have c3 := (hM1.s q1 (n := 3) (by decide) (x := 3) rfl).trans sg.1
            have c4 := (hM1.s q1 (n := 4) (by decide) (x := 4) rfl).trans sg.2.1
            have c5 := (hM1.s q1 (n := 5) (by decide) (x := 5) rfl).trans sg.2.2.1
            have c6 := (hM1.s q1 (n := 6) (by decide) (x := 6) rfl).trans sg.2.2.2.1
            have k3 : f1 5 0 8 = 3 → R = (100 + 10 * tvV T σ + tnV T 0 10 (stepN T τ), tnS T 0 10 (stepN T τ)) → X 102 [some (.inr (.inr (5, 0, 0))), some (.inl (nI ci)), some (.inl (nI n)), some (.inl (nI v)), some (.inl (f1 5 0 8)), none] [] f1 a3 := fun z eq => by
              rw [z]
              refine hX [] 90 _ _ _ _ _ ?_
              refine ⟨T, τ, hM3.1, hM3.2.1.1, hM3.2.2.l0, fun y => absurd q1 y, fun _ => (hM3.2.1.2.2.2 q1).1, fun f2 hF2 hL2 => ?_⟩
              have hM4 : LMT f2 a3 T (stepN T τ) := hM3.go hF2 rfl hL2 hM3.2.2.step
              have tail : vp_in (nI ci) (al 5 3) ∧ sX5_readNumber [.inr (.inr (5, 0, 0)), .inl 0, .inl 9] f2 (upa a3 5 0 3 (nI ci).toNatClampNeg 1) (fun w f3 a4 => ∀ y, w = some (.inl y) → vp_in (nI ci + 2) (al 5 3) ∧ post none f3 (upa a4 5 0 3 (nI ci + 2).toNatClampNeg y)) := by
                refine ⟨i0, T, stepN T τ, 0, 10, hM4.fc (by rw [ec]; exact ((FC.rf ci a3).ua (Or.inl rfl) _).r4), rfl, by decide, by decide, by decide, fun f3 w hF3 hM5 hw hwb y ey => ?_⟩
                injection ey with ey
                injection ey with ey
                subst ey
                refine ⟨i2, ?_⟩
                rw [ec, e2]
                have hC5 : FC ci a (upa (upa a3 5 0 3 ci 1) 5 0 3 (ci + 2) w) := (hC3.ua (Or.inl rfl) _).ua (Or.inr (Or.inr rfl)) _
                rw [ec] at hM5
                refine h f3 _ ((hF1.tr hF2).tr hF3) hC5 (by rw [eq]; exact hM5.fc (((FC.rf ci _).ua (Or.inr (Or.inr rfl)) _).r4)) (fun y => ?_)
                rw [eq] at y ⊢
                have hb := tnV_in y
                have ew := hw y
                dsimp only
                refine ⟨?_, ?_, ?_⟩
                · rw [upa_s, if_pos rfl, upd_s, if_neg (by omega), upa_s, if_pos rfl, upd_s, if_pos rfl, show (100 + 10 * tvV T σ + tnV T 0 10 (stepN T τ)) / 100 = 1 by omega]
                  rfl
                · rw [upa_s, if_pos rfl, upd_s, if_neg (by omega), upa_s, if_pos rfl, upd_s, if_neg (by omega), r1, show (100 + 10 * tvV T σ + tnV T 0 10 (stepN T τ)) / 10 % 10 = v by omega]
                · rw [upa_s, if_pos rfl, upd_s, if_pos rfl, ew, show (100 + 10 * tvV T σ + tnV T 0 10 (stepN T τ)) % 10 = tnV T 0 10 (stepN T τ) by omega]
              obtain ⟨t1, T', σ', lo', hi', u1, u2, u3, u4, u5, u6⟩ := tail
              exact ⟨fun y => absurd rfl y, fun _ => ⟨t1, ⟨fun _ => ⟨T', σ', lo', hi', u1, u2, u3, u4, u5, fun f3 w g1 g2 g3 g4 => u6 f3 w g1 g2 g3 g4 w rfl⟩, fun y => absurd y (by decide)⟩⟩⟩
            have k4 : f1 5 0 8 = 4 → R = (200 + 10 * tvV T σ + tnV T 1 10 (stepN T τ), tnS T 1 10 (stepN T τ)) → X 102 [some (.inr (.inr (5, 0, 0))), some (.inl (nI ci)), some (.inl (nI n)), some (.inl (nI v)), some (.inl (f1 5 0 8)), none] [] f1 a3 := fun z eq => by
              rw [z]
              refine hX [] 90 _ _ _ _ _ ?_
              refine ⟨T, τ, hM3.1, hM3.2.1.1, hM3.2.2.l0, fun y => absurd q1 y, fun _ => (hM3.2.1.2.2.2 q1).1, fun f2 hF2 hL2 => ?_⟩
              have hM4 : LMT f2 a3 T (stepN T τ) := hM3.go hF2 rfl hL2 hM3.2.2.step
              have tail : vp_in (nI ci) (al 5 3) ∧ sX5_readNumber [.inr (.inr (5, 0, 0)), .inl 1, .inl 9] f2 (upa a3 5 0 3 (nI ci).toNatClampNeg 2) (fun w f3 a4 => ∀ y, w = some (.inl y) → vp_in (nI ci + 2) (al 5 3) ∧ post none f3 (upa a4 5 0 3 (nI ci + 2).toNatClampNeg y)) := by
                refine ⟨i0, T, stepN T τ, 1, 10, hM4.fc (by rw [ec]; exact ((FC.rf ci a3).ua (Or.inl rfl) _).r4), rfl, by decide, by decide, by decide, fun f3 w hF3 hM5 hw hwb y ey => ?_⟩
                injection ey with ey
                injection ey with ey
                subst ey
                refine ⟨i2, ?_⟩
                rw [ec, e2]
                have hC5 : FC ci a (upa (upa a3 5 0 3 ci 2) 5 0 3 (ci + 2) w) := (hC3.ua (Or.inl rfl) _).ua (Or.inr (Or.inr rfl)) _
                rw [ec] at hM5
                refine h f3 _ ((hF1.tr hF2).tr hF3) hC5 (by rw [eq]; exact hM5.fc (((FC.rf ci _).ua (Or.inr (Or.inr rfl)) _).r4)) (fun y => ?_)
                rw [eq] at y ⊢
                have hb := tnV_in y
                have ew := hw y
                dsimp only
                refine ⟨?_, ?_, ?_⟩
                · rw [upa_s, if_pos rfl, upd_s, if_neg (by omega), upa_s, if_pos rfl, upd_s, if_pos rfl, show (200 + 10 * tvV T σ + tnV T 1 10 (stepN T τ)) / 100 = 2 by omega]
                  rfl
                · rw [upa_s, if_pos rfl, upd_s, if_neg (by omega), upa_s, if_pos rfl, upd_s, if_neg (by omega), r1, show (200 + 10 * tvV T σ + tnV T 1 10 (stepN T τ)) / 10 % 10 = v by omega]
                · rw [upa_s, if_pos rfl, upd_s, if_pos rfl, ew, show (200 + 10 * tvV T σ + tnV T 1 10 (stepN T τ)) % 10 = tnV T 1 10 (stepN T τ) by omega]
              obtain ⟨t1, T', σ', lo', hi', u1, u2, u3, u4, u5, u6⟩ := tail
              exact ⟨fun _ => ⟨fun y => absurd rfl y, fun _ => ⟨t1, ⟨fun y => absurd rfl y, fun _ => ⟨T', σ', lo', hi', u1, u2, u3, u4, u5, fun f3 w g1 g2 g3 g4 => u6 f3 w g1 g2 g3 g4 w rfl⟩⟩⟩⟩, fun y => absurd y (by decide)⟩
            have k5 : f1 5 0 8 = 5 → R = (300 + 10 * tvV T σ + tnV T 0 10 (stepN T τ), tnS T 0 10 (stepN T τ)) → X 102 [some (.inr (.inr (5, 0, 0))), some (.inl (nI ci)), some (.inl (nI n)), some (.inl (nI v)), some (.inl (f1 5 0 8)), none] [] f1 a3 := fun z eq => by
              rw [z]
              refine hX [] 90 _ _ _ _ _ ?_
              refine ⟨T, τ, hM3.1, hM3.2.1.1, hM3.2.2.l0, fun y => absurd q1 y, fun _ => (hM3.2.1.2.2.2 q1).1, fun f2 hF2 hL2 => ?_⟩
              have hM4 : LMT f2 a3 T (stepN T τ) := hM3.go hF2 rfl hL2 hM3.2.2.step
              have tail : vp_in (nI ci) (al 5 3) ∧ sX5_readNumber [.inr (.inr (5, 0, 0)), .inl 0, .inl 9] f2 (upa a3 5 0 3 (nI ci).toNatClampNeg 3) (fun w f3 a4 => ∀ y, w = some (.inl y) → vp_in (nI ci + 2) (al 5 3) ∧ post none f3 (upa a4 5 0 3 (nI ci + 2).toNatClampNeg y)) := by
                refine ⟨i0, T, stepN T τ, 0, 10, hM4.fc (by rw [ec]; exact ((FC.rf ci a3).ua (Or.inl rfl) _).r4), rfl, by decide, by decide, by decide, fun f3 w hF3 hM5 hw hwb y ey => ?_⟩
                injection ey with ey
                injection ey with ey
                subst ey
                refine ⟨i2, ?_⟩
                rw [ec, e2]
                have hC5 : FC ci a (upa (upa a3 5 0 3 ci 3) 5 0 3 (ci + 2) w) := (hC3.ua (Or.inl rfl) _).ua (Or.inr (Or.inr rfl)) _
                rw [ec] at hM5
                refine h f3 _ ((hF1.tr hF2).tr hF3) hC5 (by rw [eq]; exact hM5.fc (((FC.rf ci _).ua (Or.inr (Or.inr rfl)) _).r4)) (fun y => ?_)
                rw [eq] at y ⊢
                have hb := tnV_in y
                have ew := hw y
                dsimp only
                refine ⟨?_, ?_, ?_⟩
                · rw [upa_s, if_pos rfl, upd_s, if_neg (by omega), upa_s, if_pos rfl, upd_s, if_pos rfl, show (300 + 10 * tvV T σ + tnV T 0 10 (stepN T τ)) / 100 = 3 by omega]
                  rfl
                · rw [upa_s, if_pos rfl, upd_s, if_neg (by omega), upa_s, if_pos rfl, upd_s, if_neg (by omega), r1, show (300 + 10 * tvV T σ + tnV T 0 10 (stepN T τ)) / 10 % 10 = v by omega]
                · rw [upa_s, if_pos rfl, upd_s, if_pos rfl, ew, show (300 + 10 * tvV T σ + tnV T 0 10 (stepN T τ)) % 10 = tnV T 0 10 (stepN T τ) by omega]
              obtain ⟨t1, T', σ', lo', hi', u1, u2, u3, u4, u5, u6⟩ := tail
              exact ⟨fun _ => ⟨fun _ => ⟨t1, ⟨fun _ => ⟨T', σ', lo', hi', u1, u2, u3, u4, u5, fun f3 w g1 g2 g3 g4 => u6 f3 w g1 g2 g3 g4 w rfl⟩, fun y => absurd y (by decide)⟩⟩, fun y => absurd y (by decide)⟩, fun y => absurd y (by decide)⟩
            refine hX [102] 60 _ _ _ _ _ ?_
            refine ⟨fun z => k3 z (by rw [eR, if_pos (c3.mp z)]), fun z3 => ⟨fun z => k4 z (by rw [eR, if_neg (fun y => z3 (c3.mpr y)), if_pos (c4.mp z)]), fun z4 => ⟨fun z5 => ?_, fun z5 => k5 z5 (by rw [eR, if_neg (fun y => z3 (c3.mpr y)), if_neg (fun y => z4 (c4.mpr y)), if_pos (c5.mp z5)])⟩⟩⟩
            rw [if_neg (fun y => z3 (c3.mpr y)), if_neg (fun y => z4 (c4.mpr y)), if_neg (fun y => z5 (c5.mpr y))] at eR
            have d0 : (100 + 10 * tvV T σ) / 100 = 1 := by omega
            have d1 : (100 + 10 * tvV T σ) / 10 % 10 = v := by omega
            have d2 : (100 + 10 * tvV T σ) % 10 = 0 := by omega
            refine ⟨fun z6 => ?_, fun z6 => ?_⟩
            · rw [if_neg (fun y => z6 (c6.mpr y))] at eR
              refine h f1 a3 hF1 hC3 (by rw [eR]; exact hM3) (fun _ => ?_)
              rw [eR]
              exact ⟨by rw [r0, d0]; rfl, by rw [r1, d1], by rw [r2, d2]; rfl⟩
            · rw [if_pos (c6.mp z6)] at eR
              refine ⟨T, τ, hM3.1, hM3.2.1.1, hM3.2.2.l0, fun y => absurd q1 y, fun _ => (hM3.2.1.2.2.2 q1).1, fun f2 hF2 hL2 => ?_⟩
              have hM4 : LMT f2 a3 T (stepN T τ) := hM3.go hF2 rfl hL2 hM3.2.2.step
              refine ⟨T, stepN T τ, n, hM4, rfl, hn, fun f3 o hF3 hM5 ho ho2 => ?_⟩
              have hF := (hF1.tr hF2).tr hF3
              have co : nI o = nI v ↔ o = v := nI_eq (by omega) (by omega)
              refine ⟨fun z => ?_, fun z => ?_⟩
              · have z := co.mp z
                refine h f3 a3 hF hC3 (by rw [eR]; exact hM5) (fun y => ?_)
                rw [eR] at y ⊢
                have y := ho y
                dsimp only
                rw [if_pos (by omega)]
                exact ⟨by rw [r0, d0]; rfl, by rw [r1, d1], by rw [r2, d2]; rfl⟩
              · have z : ¬ o = v := fun y => z (co.mpr y)
                refine ⟨i0, i1, ?_⟩
                have hC5 : FC ci a (upa (upa a3 5 0 3 (nI ci).toNatClampNeg 4) 5 0 3 (nI ci + 1).toNatClampNeg 0) := by
                  rw [ec, e1]
                  exact (hC3.ua (Or.inl rfl) _).ua (Or.inr (Or.inl rfl)) _
                refine h f3 _ hF hC5 (by rw [eR]; exact hM5.fc (by rw [hC5.r4, hC3.r4])) (fun y => ?_)
                rw [eR] at y ⊢
                have y := ho y
                dsimp only
                rw [if_neg (by omega), ec, e1]
                refine ⟨?_, ?_, ?_⟩
                · rw [upa_s, if_pos rfl, upd_s, if_neg (by omega), upa_s, if_pos rfl, upd_s, if_pos rfl]
                  rfl
                · rw [upa_s, if_pos rfl, upd_s, if_pos rfl]
                  rfl
                · rw [upa_s, if_pos rfl, upd_s, if_neg (by omega), upa_s, if_pos rfl, upd_s, if_neg (by omega), r2]
                  rfl
          have e3 : upa (upa (upa a 5 0 3 (nI ci).toNatClampNeg 1) 5 0 3 (nI ci + 1).toNatClampNeg (nI v)) 5 0 3 (nI ci + 2).toNatClampNeg 0 = a3 := by rw [ec, e1, e2, ea3]
          rw [← e3] at go
          exact go
        · have q1 : τ.1 ≠ 0 := fun z => q1 (hM1.zl.mpr z)
          have sf := sg_f hM1.2.2 q1
          rw [if_neg (by rw [sf]; decide), if_neg (by rw [sf]; decide), if_neg (by rw [sf]; decide), if_neg (by rw [sf]; decide)] at eR
          exact h f1 a hF1 (FC.rf ci a) (by rw [eR]; exact hM1) (fun y => absurd (by rw [eR] at y; exact y) q1)
      · have q := cs.mp q
        unfold taN at eR
        rw [if_pos q] at eR
        refine ⟨i0, T, σ, 0, 10, hM.fc (by rw [ec]; exact ((FC.rf ci a).ua (Or.inl rfl) _).r4), rfl, by decide, by decide, by decide, fun f1 v hF1 hM1 hv hvb => ⟨i2, ?_⟩⟩
        have hC : FC ci a (upa (upa a 5 0 3 (nI ci).toNatClampNeg 0) 5 0 3 (nI ci + 2).toNatClampNeg v) := by
          rw [ec, e2]
          exact ((FC.rf ci a).ua (Or.inl rfl) _).ua (Or.inr (Or.inr rfl)) _
        have r4 : upa a 5 0 3 (nI ci).toNatClampNeg 0 5 0 4 = a 5 0 4 := by
          rw [ec]
          exact ((FC.rf ci a).ua (Or.inl rfl) _).r4
        refine h f1 _ hF1 hC (by rw [eR]; exact hM1.fc (by rw [hC.r4, r4])) (fun y => ?_)
        rw [eR] at y ⊢
        have hb := tnV_in y
        have hv := hv y
        dsimp only
        rw [ec, e2]
        refine ⟨?_, ?_, ?_⟩
        · rw [upa_s, if_pos rfl, upd_s, if_neg (by omega), upa_s, if_pos rfl, upd_s, if_pos rfl, show tnV T 0 10 σ / 100 = 0 by omega]
          rfl
        · rw [upa_s, if_pos rfl, upd_s, if_neg (by omega), upa_s, if_pos rfl, upd_s, if_neg (by omega), hz, show tnV T 0 10 σ / 10 % 10 = 0 by omega]
          rfl
        · rw [upa_s, if_pos rfl, upd_s, if_pos rfl, hv, show tnV T 0 10 σ % 10 = tnV T 0 10 σ by omega]
    · have q0 : σ.1 ≠ 0 := fun z => q0 (hM.zl.mpr z)
      have ei : R.2 = σ := by rw [eR, taN_id hM.2.2 q0]
      exact h f a (FL.rf f) (FC.rf ci a) (by rw [ei]; exact hM) (fun y => absurd (by rw [ei] at y; exact y) q0)
  · exact h.elim
theorem shX5_readArgument : ∀ As f a Q, sX5_readArgument As f a Q → ∃ i r, As = .inr (.inr (5, i, 0)) :: r := by
  intro As f a Q h
  unfold sX5_readArgument at h
  split at h
  · exact ⟨_, _, rfl⟩
  · exact h.elim
theorem mX5_readArgument {g : Gm} (hg : GmOK g) : MetC g yX5_readArgument cX5_readArgument 6 none 3 sX5_readArgument := by
  refine MetC_of hg eX5_readArgument (eokX5_readArgument hg) (by decide +kernel) (fun av f a post h => ?_) rX5_readArgument
  unfold sX5_readArgument at h
  split at h
  · exact Nat.le_of_ble_eq_true rfl
  · exact h.elim
