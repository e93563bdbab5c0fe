def sX5_argument : SP := fun As f a Q => match As with
  | [.inr (.inr (5, 0, 0)), .inl x, .inl k, .inl w] => ∃ A, RepM f a A ∧ OKA A ∧ ∀ f' a', RepM f' a' A → S4 f a f' a' → Q (some (.inl (anArg A x k w))) f' a'
  | _ => False
def eX5_argument : En := (tX5_argument, [(228, false, 3, sX5_isArgument), (71, true, 3, sX5_in), (142, false, 4, sX5_ofArgument)], fdX5, [(231, .inr (.inl 2))], 0)
theorem eokX5_argument {g : Gm} (hg : GmOK g) : EnvOK g 3 RX5 cX5_argument (some .int) eX5_argument := ⟨okX5_argument, fun _ _ _ _ h => as2_all (P := fun i v => CallOK g 3 RX5 i v.1 v.2.1 v.2.2) (l := eX5_argument.2.1) ⟨callV_ok (t := 5) hg (mX5_isArgument hg) kX5_isArgument mlX5_228 qX5_isArgument.1 qX5_isArgument.2 ⟨by decide, by decide⟩ ⟨_, _, rfl⟩ shX5_isArgument, callS_ok hg (mX5_in hg) kX5_in mlX5_71 qX5_in ⟨by decide, by decide⟩, callV_ok (t := 5) hg (mX5_ofArgument hg) kX5_ofArgument mlX5_142 qX5_ofArgument.1 qX5_ofArgument.2 ⟨by decide, by decide⟩ ⟨_, _, rfl⟩ shX5_ofArgument, trivial⟩ h, fdX5_ok, fun _ _ h => as2_all (P := fun i v => CstOK g RX5 i v ∧ vld v) (l := eX5_argument.2.2.2.1) ⟨cstX5_231, trivial⟩ h, rfl⟩
theorem rX5_argument (av : List AV) (f : FF) (a : AA) (post : PT) (h : sX5_argument av f a post) (X : XT) (hX : Clo eX5_argument post X) : X 0 (padL 5 (ent av)) [] f a := by
  unfold sX5_argument at h
  split at h
  · rename_i x k w
    obtain ⟨A, hA, hO, h⟩ := h
    have hW := hO.1
    have n12 := hW.2.1
    have g0 := h f a hA (S4.rf f a)
    unfold anArg at g0
    refine hX [48, 53] 90 _ _ _ _ _ ?_
    refine ⟨aP A, hA.1, hW, ⟨fun d => ?_, fun d => ?_⟩⟩
    · have d : hasA (aP A) x k = false := b2i_e0.mp d
      rw [if_neg (by simp [d])] at g0
      exact g0
    · have d : hasA (aP A) x k = true := b2i_n0.mp d
      rw [if_pos d] at g0
      obtain ⟨n, j, rfl, hn, rfl, hj⟩ := hasA_spec hW d
      have a2 := hW.ar_to hn
      rw [nI_clamp (show n < 2 ^ 31 by omega), nI_clamp (show j < 2 ^ 31 by omega)] at g0
      have hx := hW.ag_lt (k := j) hn
      obtain ⟨r0, r1, r2⟩ := (hA.1.2.2.2 n hn).2.2 j (by omega)
      have e0 : a 5 0 0 (4 + 8 * n + (2 + 3 * j + 0)) = nI (ag (aP A) n j / 100) := r0
      have ein : b2i (decide ((0 : Int64) ≤ w.toInt64 ∧ w.toInt64 ≤ (2 : Int64))) = b2i (decide (0 ≤ w ∧ w ≤ nI 2)) := in_c (by decide)
      refine ⟨fun d2 => ?_, fun d2 => ?_⟩
      · have d2 := of_decide_eq_true (b2i_n0.mp (fun z => d2 (ein.trans z)))
        obtain ⟨m, hm, rfl⟩ := ge0 (Int32.not_lt.mpr d2.1)
        have hm3 : m ≤ 2 := (nI_leI hm (by decide)).mp d2.2
        rw [selI_n (show m < 1000 by omega) (by simp only [List.length_cons, List.length_nil]; omega)] at g0
        refine ⟨n, j, 0, rfl, rfl, rfl, by omega, ?_⟩
        have go : ∀ m z4, m < 3 → post (some (.inl (a 5 0 0 (4 + 8 * n + (2 + 3 * j + m))))) f a → X 53 [some (.inr (.inr (5, 0, 0))), some (.inl (nI n)), some (.inl (nI j)), some (.inl (nI m)), z4] [] f a := fun m z4 hm K => hX [] 20 _ _ _ _ _ ⟨n, j, m, rfl, rfl, rfl, by omega, K⟩
        rcases (show m = 0 ∨ m = 1 ∨ m = 2 by omega) with rfl | rfl | rfl
        · exact ⟨fun _ => go 0 _ (by decide) (pI g0 r0.symm), fun q => absurd q (by decide)⟩
        · have c0 : ∀ i, i < 10 → (a 5 0 0 (4 + 8 * n + (2 + 3 * j + 0)) = nI i ↔ ag (aP A) n j / 100 = i) := fun i hi => i_eq e0 rfl (by omega) (by omega)
          have g0 : post (some (.inl (if ag (aP A) n j / 100 = 0 ∨ ag (aP A) n j / 100 = 4 then -4 else nI (ag (aP A) n j / 10 % 10)))) f a := g0
          have n48 : ∀ z4, (ag (aP A) n j / 100 = 0 ∨ ag (aP A) n j / 100 = 4) → X 48 [some (.inr (.inr (5, 0, 0))), some (.inl (nI n)), some (.inl (nI j)), some (.inl (nI 1)), z4] [] f a := fun z4 z => by
            rw [if_pos z] at g0
            exact hX [] 20 _ _ _ _ _ g0
          refine ⟨fun q => absurd rfl q, fun _ => ⟨fun z => n48 _ (Or.inl ((c0 0 (by decide)).mp z)), fun z => ⟨fun z2 => ?_, fun z2 => n48 _ (Or.inr ((c0 4 (by decide)).mp z2))⟩⟩⟩
          rw [if_neg (fun y => y.elim (fun y => z ((c0 0 (by decide)).mpr y)) (fun y => z2 ((c0 4 (by decide)).mpr y)))] at g0
          exact go 1 _ (by decide) (pI g0 r1.symm)
        · exact ⟨fun _ => go 2 _ (by decide) (pI g0 r2.symm), fun q => absurd q (by decide)⟩
      · have d2 := of_decide_eq_false (b2i_e0.mp (ein.symm.trans d2))
        rw [selI_no (n := 2) (by decide) rfl d2] at g0
        exact g0
  · exact h.elim
theorem shX5_argument : ∀ As f a Q, sX5_argument As f a Q → ∃ i r, As = .inr (.inr (5, i, 0)) :: r := by
  intro As f a Q h
  unfold sX5_argument at h
  split at h
  · exact ⟨_, _, rfl⟩
  · exact h.elim
theorem mX5_argument {g : Gm} (hg : GmOK g) : MetC g yX5_argument cX5_argument 5 (some .int) 3 sX5_argument := by
  refine MetC_of hg eX5_argument (eokX5_argument hg) (by decide +kernel) (fun av f a post h => ?_) rX5_argument
  unfold sX5_argument at h
  split at h
  · exact Nat.le_of_ble_eq_true rfl
  · exact h.elim
def sX5_graph : SP := fun As f a Q => match As with
  | [.inr (.inr (5, 0, 0)), .inl x, .inl w] => ∃ A, RepM f a A ∧ OKA A ∧ ∀ f' a', RepM f' a' A → S4 f a f' a' → Q (some (.inl (anGraph A x w))) f' a'
  | _ => False
def eX5_graph : En := (tX5_graph, [(233, false, 2, sX5_isGraph), (175, false, 2, sX5_isIdle), (171, true, 1, sX5_flag), (179, false, 2, sX5_fallsOf), (189, false, 2, sX5_isLoop), (198, false, 2, sX5_isNeedless)], fdX5, [], 0)
theorem eokX5_graph {g : Gm} (hg : GmOK g) : EnvOK g 6 RX5 cX5_graph (some .int) eX5_graph := ⟨okX5_graph, fun _ _ _ _ h => as2_all (P := fun i v => CallOK g 6 RX5 i v.1 v.2.1 v.2.2) (l := eX5_graph.2.1) ⟨callV_ok (t := 5) hg (mX5_isGraph hg) kX5_isGraph mlX5_233 qX5_isGraph.1 qX5_isGraph.2 ⟨by decide, by decide⟩ ⟨_, _, rfl⟩ shX5_isGraph, callV_ok (t := 5) hg (mX5_isIdle hg) kX5_isIdle mlX5_175 qX5_isIdle.1 qX5_isIdle.2 ⟨by decide, by decide⟩ ⟨_, _, rfl⟩ shX5_isIdle, callS_ok hg (mX5_flag hg) kX5_flag mlX5_171 qX5_flag ⟨by decide, by decide⟩, callV_ok (t := 5) hg (mX5_fallsOf hg) kX5_fallsOf mlX5_179 qX5_fallsOf.1 qX5_fallsOf.2 ⟨by decide, by decide⟩ ⟨_, _, rfl⟩ shX5_fallsOf, callV_ok (t := 5) hg (mX5_isLoop hg) kX5_isLoop mlX5_189 qX5_isLoop.1 qX5_isLoop.2 ⟨by decide, by decide⟩ ⟨_, _, rfl⟩ shX5_isLoop, callV_ok (t := 5) hg (mX5_isNeedless hg) kX5_isNeedless mlX5_198 qX5_isNeedless.1 qX5_isNeedless.2 ⟨by decide, by decide⟩ ⟨_, _, rfl⟩ shX5_isNeedless, trivial⟩ h, fdX5_ok, (fun _ _ h => by cases h), rfl⟩
theorem rX5_graph (av : List AV) (f : FF) (a : AA) (post : PT) (h : sX5_graph av f a post) (X : XT) (hX : Clo eX5_graph post X) : X 0 (padL 3 (ent av)) [] f a := by
  unfold sX5_graph at h
  split at h
  · rename_i x w
    obtain ⟨A, hA, hO, h⟩ := h
    have hW := hO.1
    have hw := clo_w hO
    have hl := WL_len hw
    unfold anGraph at h
    dsimp only at h
    refine hX [] 90 _ _ _ _ _ ?_
    refine ⟨aP A, hA.1, hW, hA.eo, fun f1 a1 hF hG => ?_⟩
    have h := h f1 a1 (hA.fg hF) hF.s4
    refine ⟨fun d => ?_, fun d => ?_⟩
    · have d : isG A x = true := b2i_n0.mp d
      rw [if_pos d] at h
      obtain ⟨g, rfl, hg, hg3⟩ := isG_i hO d
      rw [nI_clamp (show g < 2 ^ 31 by omega)] at h
      have he := hw.1 g hg
      have hgg : GMg f1 a1 (clo (aP A)) (nI g) g := ⟨hG, hw, rfl, hg⟩
      have hE := hgg.e
      refine ⟨⟨fun q => ?_, fun q => ?_, fun q => ?_, fun q => ?_, fun q => ?_, fun q => ?_, fun q => ?_, fun q => ?_, trivial⟩, fun q => ?_⟩
      · rw [selI_in 0 (sw q) (Nat.le_of_ble_eq_true rfl)] at h
        exact ⟨hgg.i rfl, pI h hE.1.symm⟩
      · rw [selI_in 1 (sw q) (Nat.le_of_ble_eq_true rfl)] at h
        exact ⟨hgg.i rfl, pI h hE.2.1.symm⟩
      · rw [selI_in 2 (sw q) (Nat.le_of_ble_eq_true rfl)] at h
        exact ⟨hgg.i rfl, pI h hE.2.2.1.symm⟩
      · rw [selI_in 3 (sw q) (Nat.le_of_ble_eq_true rfl)] at h
        exact ⟨hgg.i rfl, pI h hE.2.2.2.2.2.symm⟩
      · rw [selI_in 4 (sw q) (Nat.le_of_ble_eq_true rfl)] at h
        exact ⟨_, g, hgg, pI h (b2i_b _).symm⟩
      · rw [selI_in 5 (sw q) (Nat.le_of_ble_eq_true rfl)] at h
        have h : post (some (.inl (if (ge (clo (aP A)) g).1 = (ge (clo (aP A)) g).2.1 then nI (fallN (ge (clo (aP A)) g).2.2.1) else -4))) f1 a1 := h
        have c1 : a1 5 0 12 (nI g).toNatClampNeg = a1 5 0 13 (nI g).toNatClampNeg ↔ (ge (clo (aP A)) g).1 = (ge (clo (aP A)) g).2.1 := i_eq hE.1 hE.2.1 (by have := he.1; omega) (by have := he.2.1; omega)
        refine ⟨hgg.i rfl, hgg.i rfl, ⟨fun d => ?_, fun d => ?_⟩⟩
        · rw [if_neg (fun z => d (c1.mpr z))] at h
          exact h
        · rw [if_pos (c1.mp d)] at h
          exact ⟨_, g, hgg, h⟩
      · rw [selI_in 6 (sw q) (Nat.le_of_ble_eq_true rfl)] at h
        exact ⟨_, g, hgg, pI h (b2i_b _).symm⟩
      · rw [selI_in 7 (sw q) (Nat.le_of_ble_eq_true rfl)] at h
        exact ⟨_, g, hgg, pI h (b2i_b _).symm⟩
      · rw [selI_out (q.imp id (fun z => by simp only [List.length_cons, List.length_nil]; omega))] at h
        exact h
    · have d : isG A x = false := b2i_e0.mp d
      rw [if_neg (by simp [d])] at h
      exact h
  · exact h.elim
theorem shX5_graph : ∀ As f a Q, sX5_graph As f a Q → ∃ i r, As = .inr (.inr (5, i, 0)) :: r := by
  intro As f a Q h
  unfold sX5_graph at h
  split at h
  · exact ⟨_, _, rfl⟩
  · exact h.elim
theorem mX5_graph {g : Gm} (hg : GmOK g) : MetC g yX5_graph cX5_graph 3 (some .int) 6 sX5_graph := by
  refine MetC_of hg eX5_graph (eokX5_graph hg) (by decide +kernel) (fun av f a post h => ?_) rX5_graph
  unfold sX5_graph at h
  split at h
  · exact Nat.le_of_ble_eq_true rfl
  · exact h.elim
def sX5_word : SP := fun As f a Q => match As with
  | [.inr (.inr (5, 0, 0)), .inl x, .inl k] => ∃ A, RepM f a A ∧ OKA A ∧ ∀ f' a', RepM f' a' A → S4 f a f' a' → Q (some (.inl (anWord A x k))) f' a'
  | _ => False
def eX5_word : En := (tX5_word, [(233, false, 2, sX5_isGraph)], fdX5, [], 0)
theorem eokX5_word {g : Gm} (hg : GmOK g) : EnvOK g 6 RX5 cX5_word (some .int) eX5_word := ⟨okX5_word, fun _ _ _ _ h => as2_all (P := fun i v => CallOK g 6 RX5 i v.1 v.2.1 v.2.2) (l := eX5_word.2.1) ⟨callV_ok (t := 5) hg (mX5_isGraph hg) kX5_isGraph mlX5_233 qX5_isGraph.1 qX5_isGraph.2 ⟨by decide, by decide⟩ ⟨_, _, rfl⟩ shX5_isGraph, trivial⟩ h, fdX5_ok, (fun _ _ h => by cases h), rfl⟩
theorem rX5_word (av : List AV) (f : FF) (a : AA) (post : PT) (h : sX5_word av f a post) (X : XT) (hX : Clo eX5_word post X) : X 0 (padL 4 (ent av)) [] f a := by
  unfold sX5_word at h
  split at h
  · rename_i x k
    obtain ⟨A, hA, hO, h⟩ := h
    have hW := hO.1
    have hw := clo_w hO
    have hl := WL_len hw
    unfold anWord at h
    refine hX [29] 90 _ _ _ _ _ ?_
    refine ⟨aP A, hA.1, hW, hA.eo, fun f1 a1 hF hG => ?_⟩
    have h := h f1 a1 (hA.fg hF) hF.s4
    obtain ⟨L, eL⟩ : ∃ L, L = clo (aP A) := ⟨_, rfl⟩
    refine ⟨fun d => ?_, fun d => ?_⟩
    · have d : isG A x = false := b2i_e0.mp d
      rw [if_neg (by simp [d])] at h
      exact h
    · have d : isG A x = true := b2i_n0.mp d
      refine ⟨fun d2 => ?_, fun d2 => ?_⟩
      · rw [if_pos (by simp [d, d2])] at h
        obtain ⟨g, rfl, hg, hg3⟩ := isG_i hO d
        obtain ⟨m, hm, rfl⟩ := ge0 (Int32.not_lt.mpr d2)
        rw [nI_clamp (show g < 2 ^ 31 by omega), nI_clamp hm] at h
        rw [← eL] at h hg hG hw hl
        have he := hw.1 g hg
        have hgg : GMg f1 a1 L (nI g) g := ⟨hG, hw, rfl, hg⟩
        have hE := hgg.e
        have hwl := he.2.2.2.2.2.2.2.1
        have el : nI m < a1 5 0 17 (nI g).toNatClampNeg ↔ m < (ge L g).2.2.2.2.2.1 := i_lt rfl hE.2.2.2.2.2 hm (by omega)
        have ew : nI m < nI (ge L g).2.2.2.2.2.1 ↔ m < (ge L g).2.2.2.2.2.1 := nI_ltI hm (by omega)
        refine ⟨hgg.i rfl, ⟨fun q => ?_, fun q => ?_⟩⟩
        · have q := el.mp q
          rw [if_pos (ew.mpr q)] at h
          have key : ∀ d g1, g1 < L.length → (ge L g1).2.2.2.2.2.1 = m + d + 1 → post (some (.inl (nI (wordU L d g1)))) f1 a1 → X 29 [some (.inr (.inr (5, 0, 0))), some (.inl (nI g)), some (.inl (nI m)), some (.inl (nI g1))] [] f1 a1 := by
            intro d
            induction d with
            | zero =>
              intro g1 hg1 hw1 h
              have hg1g : GMg f1 a1 L (nI g1) g1 := ⟨hG, hw, rfl, hg1⟩
              have hE1 := hg1g.e
              refine hX [29] 90 _ _ _ _ _ ?_
              have e1 : a1 5 0 17 (nI g1).toNatClampNeg ≤ nI m + 1 ↔ (ge L g1).2.2.2.2.2.1 ≤ m + 1 := i_le hE1.2.2.2.2.2 (nI_1 m) (by omega) (by omega)
              refine ⟨hg1g.i rfl, ⟨fun _ => ⟨hg1g.i rfl, pI h hE1.2.2.2.2.1.symm⟩, fun z => absurd (e1.mpr (by omega)) z⟩⟩
            | succ d ih =>
              intro g1 hg1 hw1 h
              have hg1g : GMg f1 a1 L (nI g1) g1 := ⟨hG, hw, rfl, hg1⟩
              have hE1 := hg1g.e
              have he1 := hw.1 g1 hg1
              have hwl1 := he1.2.2.2.2.2.2.2.1
              have e1 : a1 5 0 17 (nI g1).toNatClampNeg ≤ nI m + 1 ↔ (ge L g1).2.2.2.2.2.1 ≤ m + 1 := i_le hE1.2.2.2.2.2 (nI_1 m) (by omega) (by omega)
              refine hX [29] 90 _ _ _ _ _ ?_
              refine ⟨hg1g.i rfl, ⟨fun z => absurd (e1.mp z) (by omega), fun _ => ⟨hg1g.i rfl, ?_⟩⟩⟩
              cases ha : (ge L g1).2.2.2.1 with
              | none =>
                have := he1.2.2.2.2.2.1 ha
                omega
              | some h1 =>
                obtain ⟨q1, q2⟩ := he1.2.2.2.2.1 h1 ha
                have n1 := ih h1 (by omega) (by omega) (by simpa [wordU, ha] using h)
                have e1 : a1 5 0 15 (nI g1).toNatClampNeg = nI h1 := by
                  rw [hE1.2.2.2.1, ha]
                  rfl
                rw [← e1] at n1
                exact n1
          exact key ((ge L g).2.2.2.2.2.1 - 1 - m) g hg (by omega) h
        · have q : ¬ m < (ge L g).2.2.2.2.2.1 := fun z => q (el.mpr z)
          rw [if_neg (fun z => q (ew.mp z))] at h
          exact h
      · rw [if_neg (by simp [d2])] at h
        exact h
  · exact h.elim
theorem shX5_word : ∀ As f a Q, sX5_word As f a Q → ∃ i r, As = .inr (.inr (5, i, 0)) :: r := by
  intro As f a Q h
  unfold sX5_word at h
  split at h
  · exact ⟨_, _, rfl⟩
  · exact h.elim
theorem mX5_word {g : Gm} (hg : GmOK g) : MetC g yX5_word cX5_word 4 (some .int) 6 sX5_word := by
  refine MetC_of hg eX5_word (eokX5_word hg) (by decide +kernel) (fun av f a post h => ?_) rX5_word
  unfold sX5_word at h
  split at h
  · exact Nat.le_of_ble_eq_true rfl
  · exact h.elim
def sX5_find : SP := fun As f a Q => match As with
  | [.inr (.inr (5, 0, 0)), .inl x, .inl y, .inl z] => ∃ A, RepM f a A ∧ OKA A ∧ ∀ f' a', RepM f' a' A → S4 f a f' a' → Q (some (.inl (anFind A x y z))) f' a'
  | _ => False
def eX5_find : En := (tX5_find, [(211, false, 2, sX5_isFun), (71, true, 3, sX5_in), (192, false, 1, sX5_findGraphs), (155, true, 3, sX5_slot)], fdX5, [(236, .inr (.inl 80))], 0)
theorem eokX5_find {g : Gm} (hg : GmOK g) : EnvOK g 5 RX5 cX5_find (some .int) eX5_find := ⟨okX5_find, fun _ _ _ _ h => as2_all (P := fun i v => CallOK g 5 RX5 i v.1 v.2.1 v.2.2) (l := eX5_find.2.1) ⟨callV_ok (t := 5) hg (mX5_isFun hg) kX5_isFun mlX5_211 qX5_isFun.1 qX5_isFun.2 ⟨by decide, by decide⟩ ⟨_, _, rfl⟩ shX5_isFun, callS_ok hg (mX5_in hg) kX5_in mlX5_71 qX5_in ⟨by decide, by decide⟩, callV_ok (t := 5) hg (mX5_findGraphs hg) kX5_findGraphs mlX5_192 qX5_findGraphs.1 qX5_findGraphs.2 ⟨by decide, by decide⟩ ⟨_, _, rfl⟩ shX5_findGraphs, callS_ok hg (mX5_slot hg) kX5_slot mlX5_155 qX5_slot ⟨by decide, by decide⟩, trivial⟩ h, fdX5_ok, fun _ _ h => as2_all (P := fun i v => CstOK g RX5 i v ∧ vld v) (l := eX5_find.2.2.2.1) ⟨cstX5_236, trivial⟩ h, rfl⟩
theorem rX5_find (av : List AV) (f : FF) (a : AA) (post : PT) (h : sX5_find av f a post) (X : XT) (hX : Clo eX5_find post X) : X 0 (padL 4 (ent av)) [] f a := by
  unfold sX5_find at h
  split at h
  · rename_i x y z
    obtain ⟨A, hA, hO, h⟩ := h
    have hW := hO.1
    have g0 : ∀ f1 a1, FG f a f1 a1 → post (some (.inl (anFind A x y z))) f1 a1 := fun f1 a1 hF => h f1 a1 (hA.fg hF) hF.s4
    unfold anFind at g0
    refine hX [] 90 _ _ _ _ _ ?_
    refine ⟨aP A, hA.1, hW, ⟨fun d => ?_, fun d => ⟨aP A, hA.1, hW, ⟨fun d2 => ?_, fun d2 => ?_⟩⟩⟩⟩
    · have d : isF A x = false := b2i_e0.mp d
      rw [if_neg (by simp [d])] at g0
      exact g0 f a (FG.rf f a)
    · have d : isF A x = true := b2i_n0.mp d
      have d2 : isF A y = false := b2i_e0.mp d2
      rw [if_neg (by simp [d, d2])] at g0
      exact g0 f a (FG.rf f a)
    · have d : isF A x = true := b2i_n0.mp d
      have d2 : isF A y = true := b2i_n0.mp d2
      rw [d, d2, Bool.true_and, Bool.true_and] at g0
      have ein : b2i (decide ((0 : Int64) ≤ z.toInt64 ∧ z.toInt64 ≤ (80 : Int64))) = b2i (decide (0 ≤ z ∧ z ≤ nI 80)) := in_c (by decide)
      have e80 : z ≤ nI 80 ↔ z < 81 := by
        rw [show nI 80 = nI 81 - 1 from by decide]
        exact le_pred (by decide)
      refine ⟨fun d3 => ?_, fun d3 => ?_⟩
      · have d3 := of_decide_eq_true (b2i_n0.mp (fun z => d3 (ein.trans z)))
        rw [if_pos (decide_eq_true ⟨d3.1, e80.mp d3.2⟩)] at g0
        obtain ⟨i, rfl, hi, hi3⟩ := isF_i hO d
        obtain ⟨j, rfl, hj, hj3⟩ := isF_i hO d2
        obtain ⟨c, hc, rfl⟩ := ge0 (Int32.not_lt.mpr d3.1)
        have hc81 : c < 81 := by have := (nI_leI hc (by decide)).mp d3.2; omega
        rw [nI_clamp (show i < 2 ^ 31 by omega), nI_clamp (show j < 2 ^ 31 by omega), nI_clamp hc] at g0
        have hp := pl_lt hi3 hj3 hc81
        have ep : 81 * (3 * i + j) + c = pl i j c := by unfold pl; omega
        refine ⟨aP A, none, hA.1, hW, hA.eo, om_no, fun f1 a1 hF hG => ?_⟩
        rw [cloM_none] at hG
        refine ⟨i, j, c, rfl, rfl, rfl, ?_⟩
        rw [ep]
        refine ⟨inA 729 rfl rfl hp (by decide), pI (g0 f1 a1 hF) ?_⟩
        dsimp only
        rw [nI_clamp (by omega), hG.2.2 _ hp, fM_oN]
      · have d3 := of_decide_eq_false (b2i_e0.mp (ein.symm.trans d3))
        rw [if_neg (by rw [decide_eq_false (fun (y : _ ∧ _) => d3 ⟨y.1, e80.mpr y.2⟩)]; decide)] at g0
        exact g0 f a (FG.rf f a)
  · exact h.elim
theorem shX5_find : ∀ As f a Q, sX5_find As f a Q → ∃ i r, As = .inr (.inr (5, i, 0)) :: r := by
  intro As f a Q h
  unfold sX5_find at h
  split at h
  · exact ⟨_, _, rfl⟩
  · exact h.elim
theorem mX5_find {g : Gm} (hg : GmOK g) : MetC g yX5_find cX5_find 4 (some .int) 5 sX5_find := by
  refine MetC_of hg eX5_find (eokX5_find hg) (by decide +kernel) (fun av f a post h => ?_) rX5_find
  unfold sX5_find at h
  split at h
  · exact Nat.le_of_ble_eq_true rfl
  · exact h.elim
