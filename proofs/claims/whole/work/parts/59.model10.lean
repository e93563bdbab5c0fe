/-! arguments as they are told -/
def sX5_toldOf : SP := fun As f a Q => match As with
  | [.inr (.inr (5, 0, 0)), .inl c, .inl k] => ∃ P n j, RM (a 5 0 0) P ∧ WF P ∧ c = nI n ∧ k = nI j ∧ n < P.2.length ∧ j < 2 ∧ Q (some (.inl (nI (ag P n j)))) f a
  | _ => False
def eX5_toldOf : En := (tX5_toldOf, [(142, false, 4, sX5_ofArgument)], fdX5, [], 0)
theorem eokX5_toldOf {g : Gm} (hg : GmOK g) : EnvOK g 2 RX5 cX5_toldOf (some .int) eX5_toldOf := ⟨okX5_toldOf, fun _ _ _ _ h => as2_all (P := fun i v => CallOK g 2 RX5 i v.1 v.2.1 v.2.2) (l := eX5_toldOf.2.1) ⟨callV_ok (t := 5) hg (mX5_ofArgument hg) kX5_ofArgument mlX5_142 qX5_ofArgument.1 qX5_ofArgument.2 ⟨by decide, by decide⟩ ⟨_, _, rfl⟩ shX5_ofArgument, trivial⟩ h, fdX5_ok, (fun _ _ h => by cases h), rfl⟩
theorem rX5_toldOf (av : List AV) (f : FF) (a : AA) (post : PT) (h : sX5_toldOf av f a post) (X : XT) (hX : Clo eX5_toldOf post X) : X 0 (padL 3 (ent av)) [] f a := by
  unfold sX5_toldOf at h
  split at h
  · obtain ⟨P, n, j, hR, hW, rfl, rfl, hn, hj, h⟩ := h
    have n12 := hR.ix hW hn
    have hx := hW.ag_lt (k := j) hn
    obtain ⟨r0, r1, r2⟩ := (hR.2.2.2 n hn).2.2 j hj
    refine hX [] 40 _ _ _ _ _ ?_
    refine ⟨n, j, 0, rfl, rfl, rfl, by omega, n, j, 1, rfl, rfl, rfl, by omega, n, j, 2, rfl, rfl, rfl, by omega, pI h ?_⟩
    dsimp only
    rw [r1, r2, show a 5 0 0 (4 + 8 * n + (2 + 3 * j + 0)) = nI (ag P n j / 100) from r0, arg3]
    exact congrArg nI (by omega)
  · exact h.elim
theorem shX5_toldOf : ∀ As f a Q, sX5_toldOf As f a Q → ∃ i r, As = .inr (.inr (5, i, 0)) :: r := by
  intro As f a Q h
  unfold sX5_toldOf at h
  split at h
  · exact ⟨_, _, rfl⟩
  · exact h.elim
theorem mX5_toldOf {g : Gm} (hg : GmOK g) : MetC g yX5_toldOf cX5_toldOf 3 (some .int) 2 sX5_toldOf := by
  refine MetC_of hg eX5_toldOf (eokX5_toldOf hg) (by decide +kernel) (fun av f a post h => ?_) rX5_toldOf
  unfold sX5_toldOf at h
  split at h
  · exact Nat.le_of_ble_eq_true rfl
  · exact h.elim
def sX5_isArgument : SP := fun As f a Q => match As with
  | [.inr (.inr (5, 0, 0)), .inl c, .inl k] => ∃ P, RM (a 5 0 0) P ∧ WF P ∧ Q (some (.inl (b2i (hasA P c k)))) f a
  | _ => False
def eX5_isArgument : En := (tX5_isArgument, [(223, false, 2, sX5_isCall), (139, false, 3, sX5_of), (71, true, 3, sX5_in)], fdX5, [], 1)
theorem eokX5_isArgument {g : Gm} (hg : GmOK g) : EnvOK g 2 RX5 cX5_isArgument (some .boolean) eX5_isArgument := ⟨okX5_isArgument, fun _ _ _ _ h => as2_all (P := fun i v => CallOK g 2 RX5 i v.1 v.2.1 v.2.2) (l := eX5_isArgument.2.1) ⟨callV_ok (t := 5) hg (mX5_isCall hg) kX5_isCall mlX5_223 qX5_isCall.1 qX5_isCall.2 ⟨by decide, by decide⟩ ⟨_, _, rfl⟩ shX5_isCall, callV_ok (t := 5) hg (mX5_of hg) kX5_of mlX5_139 qX5_of.1 qX5_of.2 ⟨by decide, by decide⟩ ⟨_, _, rfl⟩ shX5_of, callS_ok hg (mX5_in hg) kX5_in mlX5_71 qX5_in ⟨by decide, by decide⟩, trivial⟩ h, fdX5_ok, (fun _ _ h => by cases h), rfl⟩
theorem rX5_isArgument (av : List AV) (f : FF) (a : AA) (post : PT) (h : sX5_isArgument av f a post) (X : XT) (hX : Clo eX5_isArgument post X) : X 0 (padL 3 (ent av)) [] f a := by
  unfold sX5_isArgument at h
  split at h
  · rename_i c k
    obtain ⟨P, hR, hW, h⟩ := h
    have n12 := hW.2.1
    have n3 := hW.1
    unfold hasA at h
    refine hX [] 60 _ _ _ _ _ ?_
    refine ⟨P, hR, hW, ⟨fun q => pF h (by rw [b2i_e0.mp q, Bool.false_and]), fun q => ?_⟩⟩
    have q := b2i_n0.mp q
    rw [q, Bool.true_and] at h
    have q := of_decide_eq_true q
    obtain ⟨n, rfl, hn⟩ := rng (M := P.2.length) (by omega) q.1 q.2
    rw [nI_clamp (by omega)] at h
    obtain ⟨r0, r1, -⟩ := hR.2.2.2 n hn
    have ht := hW.to_lt hn
    have et := hR.arm hW r1 ht
    have a2 := hW.ar_to hn
    refine ⟨n, 1, rfl, rfl, by omega, inA 101 r1 rfl (by omega) (by decide), ?_⟩
    have e : b2i (decide ((0 : Int64) ≤ k.toInt64 ∧ k.toInt64 ≤ (a 5 0 0 (a 5 0 0 (4 + 8 * n + 1)).toNatClampNeg - 1).toInt64)) = b2i (decide (0 ≤ k ∧ k < nI (ar P (to P n)))) := by
      rw [et]
      simp only [in0, le_pred (show ar P (to P n) < 1000 by omega)]
    refine ⟨fun q => pF h (b2i_e0.mp (e.symm.trans q)), fun q => pT h ?_⟩
    exact b2i_n0.mp (fun z => q (e.trans z))
  · exact h.elim
theorem shX5_isArgument : ∀ As f a Q, sX5_isArgument As f a Q → ∃ i r, As = .inr (.inr (5, i, 0)) :: r := by
  intro As f a Q h
  unfold sX5_isArgument at h
  split at h
  · exact ⟨_, _, rfl⟩
  · exact h.elim
theorem mX5_isArgument {g : Gm} (hg : GmOK g) : MetC g yX5_isArgument cX5_isArgument 3 (some .boolean) 2 sX5_isArgument := by
  refine MetC_of hg eX5_isArgument (eokX5_isArgument hg) (by decide +kernel) (fun av f a post h => ?_) rX5_isArgument
  unfold sX5_isArgument at h
  split at h
  · exact Nat.le_of_ble_eq_true rfl
  · exact h.elim
def sX5_mayBe : SP := fun As f a Q => match As with
  | [.inl x, .inl y] => ∃ n, y = nI n ∧ n < 3 ∧ Q (some (.inl (b2i (decide (0 ≤ x) && okA n x.toNatClampNeg)))) f a
  | _ => False
def eX5_mayBe : En := (tX5_mayBe, [(71, true, 3, sX5_in)], fdX5, [(238, .inr (.inl 499))], 1)
theorem eokX5_mayBe {g : Gm} (hg : GmOK g) : EnvOK g 1 RX5 cX5_mayBe (some .boolean) eX5_mayBe := ⟨okX5_mayBe, fun _ _ _ _ h => as2_all (P := fun i v => CallOK g 1 RX5 i v.1 v.2.1 v.2.2) (l := eX5_mayBe.2.1) ⟨callS_ok hg (mX5_in hg) kX5_in mlX5_71 qX5_in ⟨by decide, by decide⟩, trivial⟩ h, fdX5_ok, fun _ _ h => as2_all (P := fun i v => CstOK g RX5 i v ∧ vld v) (l := eX5_mayBe.2.2.2.1) ⟨cstX5_238, trivial⟩ h, rfl⟩
theorem rX5_mayBe (av : List AV) (f : FF) (a : AA) (post : PT) (h : sX5_mayBe av f a post) (X : XT) (hX : Clo eX5_mayBe post X) : X 0 (padL 5 (ent av)) [] f a := by
  unfold sX5_mayBe at h
  split at h
  · rename_i x y
    obtain ⟨n, rfl, hn, h⟩ := h
    have ein : b2i (decide ((0 : Int64) ≤ x.toInt64 ∧ x.toInt64 ≤ (499 : Int64))) = b2i (decide (0 ≤ x ∧ x ≤ 499)) := by
      rw [show (499 : Int64) = (499 : Int32).toInt64 from by decide]
      simp only [in0]
    refine hX [45, 70, 87, 91] 90 _ _ _ _ _ ?_
    refine ⟨fun q => ?_, fun q => ?_⟩
    · have q := of_decide_eq_true (b2i_n0.mp (fun z => q (ein.trans z)))
      obtain ⟨m, hm, rfl⟩ := ge0 (Int32.not_lt.mpr q.1)
      have hm5 : m ≤ 499 := (nI_leI (b := 499) hm (by decide)).mp q.2
      rw [decide_eq_true q.1, Bool.true_and, nI_clamp hm] at h
      unfold okA at h
      rw [decide_eq_true (show m < 500 by omega), Bool.true_and] at h
      have d0 : nI m / 100 = nI (m / 100) := pk_div (d := 100) hm (by decide) (by decide)
      have d1 : nI m / 10 - nI m / 10 / 10 * 10 = nI (m / 10 % 10) := by
        rw [show nI m / 10 = nI (m / 10) from pk_div (d := 10) hm (by decide) (by decide)]
        exact pk_rem (d := 10) (by omega) (by decide) (by decide)
      have d2 : nI m - nI m / 10 * 10 = nI (m % 10) := pk_rem (d := 10) hm (by decide) (by decide)
      have c0 : ∀ j, j < 10 → (nI m / 100 = nI j ↔ m / 100 = j) := fun j hj => i_eq d0 rfl (by omega) (by omega)
      have c1 : nI m / 10 - nI m / 10 / 10 * 10 = nI 0 ↔ m / 10 % 10 = 0 := i_eq d1 rfl (by omega) (by decide)
      have c2 : nI m - nI m / 10 * 10 = nI 0 ↔ m % 10 = 0 := i_eq d2 rfl (by omega) (by decide)
      have c3 : nI n ≤ nI m / 10 - nI m / 10 / 10 * 10 ↔ n ≤ m / 10 % 10 := i_le rfl d1 (by omega) (by omega)
      have c4 : nI m - nI m / 10 * 10 ≤ nI 0 ↔ m % 10 ≤ 0 := i_le d2 rfl (by omega) (by decide)
      have c5 : nI n = nI 2 ↔ n = 2 := nI_eq (by omega) (by decide)
      have no : ∀ pc, (pc = 45 ∨ pc = 70 ∨ pc = 91) → ∀ z2 z3 z4 B, B = false → post (some (.inl (b2i B))) f a → X pc [some (.inl (nI m)), some (.inl (nI n)), z2, z3, z4] [] f a := fun pc hp z2 z3 z4 B eB K => by
        rcases hp with rfl | rfl | rfl
        · exact hX [] 20 _ _ _ _ _ (pF K eB)
        · exact hX [] 20 _ _ _ _ _ (pF K eB)
        · exact hX [] 20 _ _ _ _ _ (pF K eB)
      refine ⟨by decide, by decide, by decide, by decide, ⟨fun q0 => ?_, fun q0 => ?_⟩⟩
      · have q0 : ¬ m / 100 = 0 := fun z => q0 ((c0 0 (by decide)).mpr z)
        rw [if_neg q0] at h
        refine ⟨fun q4 => ?_, fun q4 => ?_⟩
        · have q4 : ¬ m / 100 = 4 := fun z => q4 ((c0 4 (by decide)).mpr z)
          rw [if_neg q4] at h
          refine ⟨fun p => no 91 (by decide) _ _ _ _ (by have p := c3.mp p; rw [decide_eq_false (by omega), Bool.false_and]) h, fun p => ?_⟩
          have p : ¬ n ≤ m / 10 % 10 := fun z => p (c3.mpr z)
          rw [decide_eq_true (show m / 10 % 10 < n by omega), Bool.true_and] at h
          have y87 : ∀ z2 z3 z4, (decide (m / 100 ≠ 2) || decide (0 < m % 10)) = true → X 87 [some (.inl (nI m)), some (.inl (nI n)), z2, z3, z4] [] f a := fun z2 z3 z4 z => hX [] 20 _ _ _ _ _ (pT h z)
          refine ⟨fun p2 => y87 _ _ _ ?_, fun p2 => ⟨fun p3 => no 91 (by decide) _ _ _ _ ?_ h, fun p3 => y87 _ _ _ ?_⟩⟩
          · rw [decide_eq_true (show m / 100 ≠ 2 from fun z => p2 ((c0 2 (by decide)).mpr z)), Bool.true_or]
          · have p2 := (c0 2 (by decide)).mp p2
            have p3 := c4.mp p3
            rw [decide_eq_false (fun z => z p2), decide_eq_false (by omega)]
            rfl
          · have p3 : ¬ m % 10 ≤ 0 := fun z => p3 (c4.mpr z)
            rw [decide_eq_true (show 0 < m % 10 by omega), Bool.or_true]
        · have q4 := (c0 4 (by decide)).mp q4
          rw [if_pos q4] at h
          refine ⟨fun p => no 70 (by decide) _ _ _ _ ?_ h, fun p => ⟨fun p2 => no 70 (by decide) _ _ _ _ ?_ h, fun p2 => ⟨fun p3 => no 70 (by decide) _ _ _ _ ?_ h, fun p3 => ?_⟩⟩⟩
          · have p : ¬ m / 10 % 10 = 0 := fun z => p (c1.mpr z)
            rw [decide_eq_false (by omega), Bool.false_and]
          · have p2 : ¬ m % 10 = 0 := fun z => p2 (c2.mpr z)
            rw [decide_eq_false (by omega), Bool.false_and]
          · rw [decide_eq_false (fun z => p3 (c5.mpr z)), Bool.and_false]
          · have p := c1.mp p
            have p2 := c2.mp p2
            exact pT h (by rw [decide_eq_true (c5.mp p3), decide_eq_true (show m = 400 by omega)]; rfl)
      · have q0 := (c0 0 (by decide)).mp q0
        rw [if_pos q0] at h
        refine ⟨fun p => no 45 (by decide) _ _ _ _ (decide_eq_false (fun z => p (c1.mpr z))) h, fun p => ?_⟩
        exact pT h (decide_eq_true (c1.mp p))
    · have q : ¬ (0 ≤ x ∧ x ≤ 499) := of_decide_eq_false (b2i_e0.mp (ein.symm.trans q))
      refine pF h ?_
      by_cases h0 : 0 ≤ x
      · obtain ⟨m, hm, rfl⟩ := ge0 (Int32.not_lt.mpr h0)
        have hm5 : ¬ m ≤ 499 := fun z => q ⟨h0, (nI_leI (b := 499) hm (by decide)).mpr z⟩
        rw [nI_clamp hm]
        unfold okA
        rw [decide_eq_false (show ¬ m < 500 by omega), Bool.false_and, Bool.and_false]
      · rw [decide_eq_false h0, Bool.false_and]
  · exact h.elim
theorem mX5_mayBe {g : Gm} (hg : GmOK g) : MetC g yX5_mayBe cX5_mayBe 5 (some .boolean) 1 sX5_mayBe := by
  refine MetC_of hg eX5_mayBe (eokX5_mayBe hg) (by decide +kernel) (fun av f a post h => ?_) rX5_mayBe
  unfold sX5_mayBe at h
  split at h
  · exact Nat.le_of_ble_eq_true rfl
  · exact h.elim
