def sX5_compose : SP := fun As f a Q => match As with
  | [.inr (.inr (5, 0, 0)), .inl x, .inl y] => ∃ A, RepM f a A ∧ OKA A ∧ ∀ f' a', RepM f' a' A → S4 f a f' a' → Q (some (.inl (anCompose A x y))) f' a'
  | _ => False
def eX5_compose : En := (tX5_compose, [(233, false, 2, sX5_isGraph), (168, true, 2, sX5_composed), (155, true, 3, sX5_slot)], fdX5, [], 0)
theorem eokX5_compose {g : Gm} (hg : GmOK g) : EnvOK g 6 RX5 cX5_compose (some .int) eX5_compose := ⟨okX5_compose, fun _ _ _ _ h => as2_all (P := fun i v => CallOK g 6 RX5 i v.1 v.2.1 v.2.2) (l := eX5_compose.2.1) ⟨callV_ok (t := 5) hg (mX5_isGraph hg) kX5_isGraph mlX5_233 qX5_isGraph.1 qX5_isGraph.2 ⟨by decide, by decide⟩ ⟨_, _, rfl⟩ shX5_isGraph, callS_ok hg (mX5_composed hg) kX5_composed mlX5_168 qX5_composed ⟨by decide, by decide⟩, callS_ok hg (mX5_slot hg) kX5_slot mlX5_155 qX5_slot ⟨by decide, by decide⟩, trivial⟩ h, fdX5_ok, (fun _ _ h => by cases h), rfl⟩
theorem rX5_compose (av : List AV) (f : FF) (a : AA) (post : PT) (h : sX5_compose av f a post) (X : XT) (hX : Clo eX5_compose post X) : X 0 (padL 3 (ent av)) [] f a := by
  unfold sX5_compose at h
  split at h
  · rename_i x y
    obtain ⟨A, hA, hO, h⟩ := h
    have hW := hO.1
    have hw := clo_w hO
    have hl := WL_len hw
    have g0 : ∀ f1 a1, FG f a f1 a1 → post (some (.inl (anCompose A x y))) f1 a1 := fun f1 a1 hF => h f1 a1 (hA.fg hF) hF.s4
    unfold anCompose at g0
    refine hX [] 90 _ _ _ _ _ ?_
    refine ⟨aP A, hA.1, hW, hA.eo, fun f1 a1 hF1 _ => ⟨fun d => ?_, fun d => ⟨aP A, hF1.rm hA.1, hW, hF1.eo hA.eo, fun f2 a2 hF2 hG => ⟨fun d2 => ?_, fun d2 => ?_⟩⟩⟩⟩
    · have d : isG A x = false := b2i_e0.mp d
      rw [if_neg (by simp [d])] at g0
      exact g0 f1 a1 hF1
    · have d : isG A x = true := b2i_n0.mp d
      have d2 : isG A y = true := b2i_n0.mp d2
      have hF := hF1.tr hF2
      rw [if_pos (by rw [d, d2]; rfl)] at g0
      obtain ⟨g, rfl, hg, hg3⟩ := isG_i hO d
      obtain ⟨k, rfl, hk, hk3⟩ := isG_i hO d2
      have g1 := g0 f2 a2 hF
      rw [nI_clamp (show g < 2 ^ 31 by omega), nI_clamp (show k < 2 ^ 31 by omega)] at g1
      obtain ⟨L, eL⟩ : ∃ L, L = clo (aP A) := ⟨_, rfl⟩
      rw [← eL] at g1 hg hk hG hw hl
      have hgg : GMg f2 a2 L (nI g) g := ⟨hG, hw, rfl, hg⟩
      have hkk : GMg f2 a2 L (nI k) k := ⟨hG, hw, rfl, hk⟩
      have eg := hgg.e
      have ek := hkk.e
      obtain ⟨o1, o2, o3, -⟩ := hw.1 g hg
      obtain ⟨p1, p2, p3, -⟩ := hw.1 k hk
      have c1 : a2 5 0 13 (nI g).toNatClampNeg = a2 5 0 12 (nI k).toNatClampNeg ↔ (ge L g).2.1 = (ge L k).1 := i_eq eg.2.1 ek.1 (by omega) (by omega)
      refine ⟨hgg.i rfl, hkk.i rfl, ⟨fun q => ?_, fun q => ?_⟩⟩
      · rw [if_neg (fun z => q (c1.mpr z))] at g1
        exact g1
      · rw [if_pos (c1.mp q)] at g1
        have hp := pl_lt o1 p2 (compN_lt (ge L g).2.2.1 (ge L k).2.2.1)
        refine ⟨hgg.i rfl, hkk.i rfl, hgg.i rfl, hkk.i rfl, (ge L g).2.2.1, (ge L k).2.2.1, eg.2.2.1, ek.2.2.1, o3, p3, (ge L g).1, (ge L k).2.1, compN (ge L g).2.2.1 (ge L k).2.2.1, eg.1, ek.2.1, rfl, ?_⟩
        rw [show 81 * (3 * (ge L g).1 + (ge L k).2.1) + compN (ge L g).2.2.1 (ge L k).2.2.1 = pl (ge L g).1 (ge L k).2.1 (compN (ge L g).2.2.1 (ge L k).2.2.1) from by unfold pl; omega]
        refine ⟨inA 729 rfl rfl hp (by decide), pI g1 ?_⟩
        dsimp only
        rw [nI_clamp (by omega), hG.2.2 _ hp, fM_oN]
    · have d : isG A x = true := b2i_n0.mp d
      have d2 : isG A y = false := b2i_e0.mp d2
      rw [if_neg (by simp [d, d2])] at g0
      exact g0 f2 a2 (hF1.tr hF2)
  · exact h.elim
theorem shX5_compose : ∀ As f a Q, sX5_compose As f a Q → ∃ i r, As = .inr (.inr (5, i, 0)) :: r := by
  intro As f a Q h
  unfold sX5_compose at h
  split at h
  · exact ⟨_, _, rfl⟩
  · exact h.elim
theorem mX5_compose {g : Gm} (hg : GmOK g) : MetC g yX5_compose cX5_compose 3 (some .int) 6 sX5_compose := by
  refine MetC_of hg eX5_compose (eokX5_compose hg) (by decide +kernel) (fun av f a post h => ?_) rX5_compose
  unfold sX5_compose at h
  split at h
  · exact Nat.le_of_ble_eq_true rfl
  · exact h.elim
def sX5_witness : SP := fun As f a Q => match As with
  | [.inr (.inr (5, 0, 0)), .inl x] => ∃ A, RepM f a A ∧ OKA A ∧ ∀ f' a', RepM f' a' A → S4 f a f' a' → Q (some (.inl (anWitness A x))) f' a'
  | _ => False
def eX5_witness : En := (tX5_witness, [(211, false, 2, sX5_isFun), (192, false, 1, sX5_findGraphs), (220, false, 2, sX5_loopOf)], fdX5, [], 0)
theorem eokX5_witness {g : Gm} (hg : GmOK g) : EnvOK g 6 RX5 cX5_witness (some .int) eX5_witness := ⟨okX5_witness, fun _ _ _ _ h => as2_all (P := fun i v => CallOK g 6 RX5 i v.1 v.2.1 v.2.2) (l := eX5_witness.2.1) ⟨callV_ok (t := 5) hg (mX5_isFun hg) kX5_isFun mlX5_211 qX5_isFun.1 qX5_isFun.2 ⟨by decide, by decide⟩ ⟨_, _, rfl⟩ shX5_isFun, callV_ok (t := 5) hg (mX5_findGraphs hg) kX5_findGraphs mlX5_192 qX5_findGraphs.1 qX5_findGraphs.2 ⟨by decide, by decide⟩ ⟨_, _, rfl⟩ shX5_findGraphs, callV_ok (t := 5) hg (mX5_loopOf hg) kX5_loopOf mlX5_220 qX5_loopOf.1 qX5_loopOf.2 ⟨by decide, by decide⟩ ⟨_, _, rfl⟩ shX5_loopOf, trivial⟩ h, fdX5_ok, (fun _ _ h => by cases h), rfl⟩
theorem rX5_witness (av : List AV) (f : FF) (a : AA) (post : PT) (h : sX5_witness av f a post) (X : XT) (hX : Clo eX5_witness post X) : X 0 (padL 2 (ent av)) [] f a := by
  unfold sX5_witness at h
  split at h
  · rename_i x
    obtain ⟨A, hA, hO, h⟩ := h
    have hW := hO.1
    have g0 : ∀ f1 a1, FG f a f1 a1 → post (some (.inl (anWitness A x))) f1 a1 := fun f1 a1 hF => h f1 a1 (hA.fg hF) hF.s4
    unfold anWitness at g0
    refine hX [] 90 _ _ _ _ _ ?_
    refine ⟨aP A, hA.1, hW, ⟨fun d => ?_, fun d => ?_⟩⟩
    · have d : isF A x = true := b2i_n0.mp d
      rw [if_pos d] at g0
      obtain ⟨i, rfl, hi, hi3⟩ := isF_i hO d
      rw [nI_clamp (show i < 2 ^ 31 by omega)] at g0
      refine ⟨aP A, none, hA.1, hW, hA.eo, om_no, fun f1 a1 hF hG => ?_⟩
      rw [cloM_none] at hG
      exact ⟨aP A, clo (aP A), i, hF.rm hA.1, hW, hF.eo hA.eo, hG, clo_w hO, rfl, hi3, pI (g0 f1 a1 hF) (by rw [lo_lo hW, fM_oN])⟩
    · have d : isF A x = false := b2i_e0.mp d
      rw [if_neg (by simp [d])] at g0
      exact g0 f a (FG.rf f a)
  · exact h.elim
theorem shX5_witness : ∀ As f a Q, sX5_witness As f a Q → ∃ i r, As = .inr (.inr (5, i, 0)) :: r := by
  intro As f a Q h
  unfold sX5_witness at h
  split at h
  · exact ⟨_, _, rfl⟩
  · exact h.elim
theorem mX5_witness {g : Gm} (hg : GmOK g) : MetC g yX5_witness cX5_witness 2 (some .int) 6 sX5_witness := by
  refine MetC_of hg eX5_witness (eokX5_witness hg) (by decide +kernel) (fun av f a post h => ?_) rX5_witness
  unfold sX5_witness at h
  split at h
  · exact Nat.le_of_ble_eq_true rfl
  · exact h.elim
def sX5_loops : SP := fun As f a Q => match As with
  | [.inr (.inr (5, 0, 0))] => ∃ A, RepM f a A ∧ OKA A ∧ ∀ f' a', RepM f' a' A → S4 f a f' a' → Q (some (.inl (anLoops A))) f' a'
  | _ => False
def eX5_loops : En := (tX5_loops, [(201, false, 2, sX5_graphsThat)], fdX5, [], 0)
theorem eokX5_loops {g : Gm} (hg : GmOK g) : EnvOK g 6 RX5 cX5_loops (some .int) eX5_loops := ⟨okX5_loops, fun _ _ _ _ h => as2_all (P := fun i v => CallOK g 6 RX5 i v.1 v.2.1 v.2.2) (l := eX5_loops.2.1) ⟨callV_ok (t := 5) hg (mX5_graphsThat hg) kX5_graphsThat mlX5_201 qX5_graphsThat.1 qX5_graphsThat.2 ⟨by decide, by decide⟩ ⟨_, _, rfl⟩ shX5_graphsThat, trivial⟩ h, fdX5_ok, (fun _ _ h => by cases h), rfl⟩
theorem rX5_loops (av : List AV) (f : FF) (a : AA) (post : PT) (h : sX5_loops av f a post) (X : XT) (hX : Clo eX5_loops post X) : X 0 (padL 1 (ent av)) [] f a := by
  unfold sX5_loops at h
  split at h
  · obtain ⟨A, hA, hO, h⟩ := h
    refine hX [] 90 _ _ _ _ _ ?_
    exact ⟨aP A, none, 3, rfl, by decide, hA.1, hO.1, hA.eo, om_no, fun f1 a1 hF => pI (h f1 a1 (hA.fg hF) hF.s4) (by rw [cloM_none, gt3]; rfl)⟩
  · exact h.elim
theorem shX5_loops : ∀ As f a Q, sX5_loops As f a Q → ∃ i r, As = .inr (.inr (5, i, 0)) :: r := by
  intro As f a Q h
  unfold sX5_loops at h
  split at h
  · exact ⟨_, _, rfl⟩
  · exact h.elim
theorem mX5_loops {g : Gm} (hg : GmOK g) : MetC g yX5_loops cX5_loops 1 (some .int) 6 sX5_loops := by
  refine MetC_of hg eX5_loops (eokX5_loops hg) (by decide +kernel) (fun av f a post h => ?_) rX5_loops
  unfold sX5_loops at h
  split at h
  · exact Nat.le_of_ble_eq_true rfl
  · exact h.elim
def sX5_fault : SP := fun As f a Q => match As with
  | [.inr (.inr (5, 0, 0))] => ∃ A, RepM f a A ∧ OKA A ∧ ∀ f' a', RepM f' a' A → S4 f a f' a' → Q (some (.inl (nI (aFt A)))) f' a'
  | _ => False
def eX5_fault : En := (tX5_fault, [], fdX5, [], 0)
theorem eokX5_fault {g : Gm} (hg : GmOK g) : EnvOK g 0 RX5 cX5_fault (some .int) eX5_fault := ⟨okX5_fault, (fun _ _ _ _ h => by cases h), fdX5_ok, (fun _ _ h => by cases h), rfl⟩
theorem rX5_fault (av : List AV) (f : FF) (a : AA) (post : PT) (h : sX5_fault av f a post) (X : XT) (hX : Clo eX5_fault post X) : X 0 (padL 1 (ent av)) [] f a := by
  unfold sX5_fault at h
  split at h
  · obtain ⟨A, hA, hO, h⟩ := h
    refine hX [] 90 _ _ _ _ _ ?_
    exact pI (h f a hA (S4.rf f a)) hA.2.1.2.2.symm
  · exact h.elim
theorem shX5_fault : ∀ As f a Q, sX5_fault As f a Q → ∃ i r, As = .inr (.inr (5, i, 0)) :: r := by
  intro As f a Q h
  unfold sX5_fault at h
  split at h
  · exact ⟨_, _, rfl⟩
  · exact h.elim
theorem mX5_fault {g : Gm} (hg : GmOK g) : MetC g yX5_fault cX5_fault 1 (some .int) 0 sX5_fault := by
  refine MetC_of hg eX5_fault (eokX5_fault hg) (by decide +kernel) (fun av f a post h => ?_) rX5_fault
  unfold sX5_fault at h
  split at h
  · exact Nat.le_of_ble_eq_true rfl
  · exact h.elim
def sX5_torn : SP := fun As f a Q => match As with
  | [.inr (.inr (5, 0, 0))] => ∃ A, RepM f a A ∧ OKA A ∧ ∀ f' a', RepM f' a' A → S4 f a f' a' → Q (some (.inl (nI (aTn A)))) f' a'
  | _ => False
def eX5_torn : En := (tX5_torn, [], fdX5, [], 0)
theorem eokX5_torn {g : Gm} (hg : GmOK g) : EnvOK g 0 RX5 cX5_torn (some .int) eX5_torn := ⟨okX5_torn, (fun _ _ _ _ h => by cases h), fdX5_ok, (fun _ _ h => by cases h), rfl⟩
theorem rX5_torn (av : List AV) (f : FF) (a : AA) (post : PT) (h : sX5_torn av f a post) (X : XT) (hX : Clo eX5_torn post X) : X 0 (padL 1 (ent av)) [] f a := by
  unfold sX5_torn at h
  split at h
  · obtain ⟨A, hA, hO, h⟩ := h
    refine hX [] 90 _ _ _ _ _ ?_
    exact pI (h f a hA (S4.rf f a)) hA.2.2.2.2.1.symm
  · exact h.elim
theorem shX5_torn : ∀ As f a Q, sX5_torn As f a Q → ∃ i r, As = .inr (.inr (5, i, 0)) :: r := by
  intro As f a Q h
  unfold sX5_torn at h
  split at h
  · exact ⟨_, _, rfl⟩
  · exact h.elim
theorem mX5_torn {g : Gm} (hg : GmOK g) : MetC g yX5_torn cX5_torn 1 (some .int) 0 sX5_torn := by
  refine MetC_of hg eX5_torn (eokX5_torn hg) (by decide +kernel) (fun av f a post h => ?_) rX5_torn
  unfold sX5_torn at h
  split at h
  · exact Nat.le_of_ble_eq_true rfl
  · exact h.elim
def sX5_plainArguments : SP := fun As f a Q => match As with
  | [.inr (.inr (5, 0, 0))] => ∃ P, RM (a 5 0 0) P ∧ WF P ∧ Q (some (.inl (nI (plainN P)))) f a
  | _ => False
def eX5_plainArguments : En := (tX5_plainArguments, [(139, false, 3, sX5_of), (142, false, 4, sX5_ofArgument), (171, true, 1, sX5_flag)], fdX5, [], 0)
theorem eokX5_plainArguments {g : Gm} (hg : GmOK g) : EnvOK g 2 RX5 cX5_plainArguments (some .int) eX5_plainArguments := ⟨okX5_plainArguments, fun _ _ _ _ h => as2_all (P := fun i v => CallOK g 2 RX5 i v.1 v.2.1 v.2.2) (l := eX5_plainArguments.2.1) ⟨callV_ok (t := 5) hg (mX5_of hg) kX5_of mlX5_139 qX5_of.1 qX5_of.2 ⟨by decide, by decide⟩ ⟨_, _, rfl⟩ shX5_of, callV_ok (t := 5) hg (mX5_ofArgument hg) kX5_ofArgument mlX5_142 qX5_ofArgument.1 qX5_ofArgument.2 ⟨by decide, by decide⟩ ⟨_, _, rfl⟩ shX5_ofArgument, callS_ok hg (mX5_flag hg) kX5_flag mlX5_171 qX5_flag ⟨by decide, by decide⟩, trivial⟩ h, fdX5_ok, (fun _ _ h => by cases h), rfl⟩
theorem rX5_plainArguments (av : List AV) (f : FF) (a : AA) (post : PT) (h : sX5_plainArguments av f a post) (X : XT) (hX : Clo eX5_plainArguments post X) : X 0 (padL 4 (ent av)) [] f a := by
  unfold sX5_plainArguments at h
  split at h
  · obtain ⟨P, hR, hW, h⟩ := h
    have h12 := hW.l12
    have h3 := hW.l3
    refine hX [4] 90 _ _ _ _ _ ?_
    refine forUp (Pr := fun c => ∀ z, X 4 [some (.inr (.inr (5, 0, 0))), some (.inl (nI (sumN (fun c => cnt (fun k => decide (ag P c k / 100 = 0)) (ar P (to P c))) c))), some (.inl (nI c)), z] [] f a) (n := P.2.length) (fun c hc next z => ?_) (fun z => ?_) 0 (Nat.zero_le _) none
    · obtain ⟨r0, r1, rk⟩ := hR.2.2.2 c hc
      have hto := hW.to_lt hc
      have hat := hW.ar_to hc
      have et := hR.arm hW r1 hto
      refine hX [4, 17] 90 _ _ _ _ _ ?_
      refine ⟨inA 101 (n := 100) rfl rfl (by decide) (by decide), ⟨fun q => absurd ((i_le hR.2.1 rfl (by omega) (by omega)).mp q) (by omega), fun _ => ?_⟩⟩
      refine forUp (Pr := fun k => X 17 [some (.inr (.inr (5, 0, 0))), some (.inl (nI (sumN (fun c => cnt (fun k => decide (ag P c k / 100 = 0)) (ar P (to P c))) c) + nI (cnt (fun k => decide (ag P c k / 100 = 0)) k))), some (.inl (nI c)), some (.inl (nI k))] [] f a) (n := ar P (to P c)) (fun k hk next => ?_) ?_ 0 (Nat.zero_le _) |> fun hh => by
        rw [show nI (cnt (fun k => decide (ag P c k / 100 = 0)) 0) = 0 from rfl, Int32.add_zero] at hh
        exact hh
      · refine hX [4, 17] 90 _ _ _ _ _ ?_
        refine ⟨c, 1, rfl, rfl, by omega, inA 101 r1 rfl (by omega) (by decide), ⟨fun q => absurd ((i_le et rfl (by omega) (by omega)).mp q) (by omega), fun _ => ?_⟩⟩
        have hag := hW.ag_lt (k := k) hc
        have q0 := (rk k (by omega)).1
        have c0 : a 5 0 0 (4 + 8 * c + (2 + 3 * k + 0)) = 0 ↔ ag P c k / 100 = 0 := i_eq (b := 0) q0 rfl (by omega) (by decide)
        rw [cnt_s, nI_succ, ← Int32.add_assoc] at next
        refine ⟨c, k, 0, rfl, rfl, rfl, by omega, ⟨fun d => ?_, fun d => ?_⟩⟩
        · rw [decide_eq_false (fun z => d (c0.mpr z))] at next
          exact next
        · rw [decide_eq_true (c0.mp (by first | exact d | exact Decidable.not_not.mp d))] at next
          exact next
      · refine hX [4, 17] 90 _ _ _ _ _ ?_
        refine ⟨c, 1, rfl, rfl, by omega, inA 101 r1 rfl (by omega) (by decide), ⟨fun _ => ?_, fun q => absurd ((i_le et rfl (by omega) (by omega)).mpr (Nat.le_refl _)) q⟩⟩
        have n1 := next (some (.inl (nI (ar P (to P c)))))
        rw [sum_s, nI_succ] at n1
        exact n1
    · refine hX [4] 90 _ _ _ _ _ ?_
      exact ⟨inA 101 (n := 100) rfl rfl (by decide) (by decide), ⟨fun _ => h, fun q => absurd ((i_le hR.2.1 rfl (by omega) (by omega)).mpr (Nat.le_refl _)) q⟩⟩
  · exact h.elim
theorem shX5_plainArguments : ∀ As f a Q, sX5_plainArguments As f a Q → ∃ i r, As = .inr (.inr (5, i, 0)) :: r := by
  intro As f a Q h
  unfold sX5_plainArguments at h
  split at h
  · exact ⟨_, _, rfl⟩
  · exact h.elim
theorem mX5_plainArguments {g : Gm} (hg : GmOK g) : MetC g yX5_plainArguments cX5_plainArguments 4 (some .int) 2 sX5_plainArguments := by
  refine MetC_of hg eX5_plainArguments (eokX5_plainArguments hg) (by decide +kernel) (fun av f a post h => ?_) rX5_plainArguments
  unfold sX5_plainArguments at h
  split at h
  · exact Nat.le_of_ble_eq_true rfl
  · exact h.elim
def sX5_codesOfAll : SP := fun As f a Q => match As with
  | [.inr (.inr (5, 0, 0))] => ∃ P, RM (a 5 0 0) P ∧ WF P ∧ f 5 0 20 = -4 ∧ ∀ f' a', FG f a f' a' → Q (some (.inl (nI (sumN (fun g => (ge (clo P) g).2.2.1) (clo P).length)))) f' a'
  | _ => False
def eX5_codesOfAll : En := (tX5_codesOfAll, [(192, false, 1, sX5_findGraphs)], fdX5, [], 0)
theorem eokX5_codesOfAll {g : Gm} (hg : GmOK g) : EnvOK g 5 RX5 cX5_codesOfAll (some .int) eX5_codesOfAll := ⟨okX5_codesOfAll, fun _ _ _ _ h => as2_all (P := fun i v => CallOK g 5 RX5 i v.1 v.2.1 v.2.2) (l := eX5_codesOfAll.2.1) ⟨callV_ok (t := 5) hg (mX5_findGraphs hg) kX5_findGraphs mlX5_192 qX5_findGraphs.1 qX5_findGraphs.2 ⟨by decide, by decide⟩ ⟨_, _, rfl⟩ shX5_findGraphs, trivial⟩ h, fdX5_ok, (fun _ _ h => by cases h), rfl⟩
theorem rX5_codesOfAll (av : List AV) (f : FF) (a : AA) (post : PT) (h : sX5_codesOfAll av f a post) (X : XT) (hX : Clo eX5_codesOfAll post X) : X 0 (padL 3 (ent av)) [] f a := by
  unfold sX5_codesOfAll at h
  split at h
  · obtain ⟨P, hR, hW, eo, h⟩ := h
    have hw : WL (clo P) := clo_ok (okK_P hW)
    have hl := WL_len hw
    refine hX [8] 40 _ _ _ _ _ ?_
    refine ⟨P, none, hR, hW, eo, om_no, fun f1 a1 hF hG => ?_⟩
    rw [cloM_none] at hG
    have h := h f1 a1 hF
    obtain ⟨L, eL⟩ : ∃ L, L = clo P := ⟨_, rfl⟩
    rw [← eL] at h hG hw hl
    refine forUp (n := L.length) (Pr := fun g => X 8 [some (.inr (.inr (5, 0, 0))), some (.inl (nI (sumN (fun g => (ge L g).2.2.1) g))), some (.inl (nI g))] [] f1 a1) ?_ ?_ 0 (Nat.zero_le _)
    · intro g hg ih
      have hgg : GMg f1 a1 L (nI g) g := ⟨hG, hw, rfl, hg⟩
      rw [sum_s, nI_succ, ← hgg.e.2.2.1] at ih
      refine hX [8] 40 _ _ _ _ _ ?_
      exact ⟨fun q => absurd ((i_le hG.1 rfl (by omega) (by omega)).mp q) (by omega), fun _ => ⟨hgg.i rfl, ih⟩⟩
    · refine hX [] 40 _ _ _ _ _ ?_
      exact ⟨fun _ => h, fun q => absurd ((i_le hG.1 rfl (by omega) (by omega)).mpr (Nat.le_refl _)) q⟩
  · exact h.elim
theorem shX5_codesOfAll : ∀ As f a Q, sX5_codesOfAll As f a Q → ∃ i r, As = .inr (.inr (5, i, 0)) :: r := by
  intro As f a Q h
  unfold sX5_codesOfAll at h
  split at h
  · exact ⟨_, _, rfl⟩
  · exact h.elim
theorem mX5_codesOfAll {g : Gm} (hg : GmOK g) : MetC g yX5_codesOfAll cX5_codesOfAll 3 (some .int) 5 sX5_codesOfAll := by
  refine MetC_of hg eX5_codesOfAll (eokX5_codesOfAll hg) (by decide +kernel) (fun av f a post h => ?_) rX5_codesOfAll
  unfold sX5_codesOfAll at h
  split at h
  · exact Nat.le_of_ble_eq_true rfl
  · exact h.elim
def sX5_count : SP := fun As f a Q => match As with
  | [.inr (.inr (5, 0, 0)), .inl x] => ∃ A, RepM f a A ∧ OKA A ∧ ∀ f' a', RepM f' a' A → S4 f a f' a' → Q (some (.inl (anCount A x))) f' a'
  | _ => False
def eX5_count : En := (tX5_count, [(171, true, 1, sX5_flag), (280, false, 1, sX5_plainArguments), (283, false, 1, sX5_codesOfAll)], fdX5, [], 0)
theorem eokX5_count {g : Gm} (hg : GmOK g) : EnvOK g 6 RX5 cX5_count (some .int) eX5_count := ⟨okX5_count, fun _ _ _ _ h => as2_all (P := fun i v => CallOK g 6 RX5 i v.1 v.2.1 v.2.2) (l := eX5_count.2.1) ⟨callS_ok hg (mX5_flag hg) kX5_flag mlX5_171 qX5_flag ⟨by decide, by decide⟩, callV_ok (t := 5) hg (mX5_plainArguments hg) kX5_plainArguments mlX5_280 qX5_plainArguments.1 qX5_plainArguments.2 ⟨by decide, by decide⟩ ⟨_, _, rfl⟩ shX5_plainArguments, callV_ok (t := 5) hg (mX5_codesOfAll hg) kX5_codesOfAll mlX5_283 qX5_codesOfAll.1 qX5_codesOfAll.2 ⟨by decide, by decide⟩ ⟨_, _, rfl⟩ shX5_codesOfAll, trivial⟩ h, fdX5_ok, (fun _ _ h => by cases h), rfl⟩
theorem mul_b0 (x : Int32) : x * b2i (decide (¬ (0 : Int32) = 0)) = 0 := by
  rw [show b2i (decide (¬ (0 : Int32) = 0)) = 0 from rfl, Int32.mul_zero]
theorem mul_b1 (x : Int32) : x * b2i (decide (¬ (1 : Int32) = 0)) = x := by
  rw [show b2i (decide (¬ (1 : Int32) = 0)) = 1 from rfl, Int32.mul_one]
theorem rX5_count (av : List AV) (f : FF) (a : AA) (post : PT) (h : sX5_count av f a post) (X : XT) (hX : Clo eX5_count post X) : X 0 (padL 2 (ent av)) [] f a := by
  unfold sX5_count at h
  split at h
  · rename_i x
    obtain ⟨A, hA, hO, h⟩ := h
    have hW := hO.1
    have n3 := hW.1
    have g0 : ∀ f1 a1, FG f a f1 a1 → post (some (.inl (anCount A x))) f1 a1 := fun f1 a1 hF => h f1 a1 (hA.fg hF) hF.s4
    unfold anCount at g0
    refine hX [93] 90 _ _ _ _ _ ?_
    refine ⟨⟨fun q => ?_, fun q => ?_, fun q => ?_, fun q => ?_, fun q => ?_, fun q => ?_, trivial⟩, fun q => ?_⟩
    · rw [selI_in 0 (sw q) (Nat.le_of_ble_eq_true rfl)] at g0
      refine ⟨inA (n := 0) 2 rfl rfl (by decide) (by decide), inA (n := 1) 2 rfl rfl (by decide) (by decide), pI (g0 f a (FG.rf f a)) ?_⟩
      have e0 : a 5 0 2 (0 : Int32).toNatClampNeg = b2i (aI A 0).isSome := (hA.2.2.1 0 (by decide)).1
      have e1 : a 5 0 2 (1 : Int32).toNatClampNeg = b2i (aI A 1).isSome := (hA.2.2.1 1 (by decide)).1
      dsimp only
      rw [e0, e1, b2i_b, b2i_b]
      rfl
    · rw [selI_in 1 (sw q) (Nat.le_of_ble_eq_true rfl)] at g0
      exact ⟨_, hA.1, hW, g0 f a (FG.rf f a)⟩
    · rw [selI_in 2 (sw q) (Nat.le_of_ble_eq_true rfl)] at g0
      exact pI (g0 f a (FG.rf f a)) hA.2.1.1.symm
    · rw [selI_in 3 (sw q) (Nat.le_of_ble_eq_true rfl)] at g0
      have g1 := g0 f a (FG.rf f a)
      have hs := hA.2.2.2.1 0 (by decide)
      refine ⟨inA (n := 0) 4 rfl rfl (by decide) (by decide), ?_⟩
      cases hsh : aS A 0 with
      | none =>
        rw [hsh] at hs g1
        exact ⟨fun d => absurd hs d, fun d => g1⟩
      | some q0 =>
        obtain ⟨l, n, cs⟩ := q0
        rw [hsh] at hs g1
        have hl := (hO.2.2.2.2.1 0 (by decide) l n cs hsh).1
        refine ⟨fun d => ?_, fun d => ?_⟩
        · exact ⟨inA (n := 0) 4 rfl rfl (by decide) (by decide), pI g1 hs.2.1.symm⟩
        · have d : a 5 0 23 0 = -4 := d
          rw [hs.1] at d
          exact absurd (by rw [d]; decide) (nI_pos (show l < 2 ^ 31 by omega))
    · rw [selI_in 4 (sw q) (Nat.le_of_ble_eq_true rfl)] at g0
      have g1 := g0 f a (FG.rf f a)
      have g1 : post (some (.inl (nI (sumN (ar (aP A)) (aP A).1.length)))) f a := g1
      have hR := hA.1
      obtain ⟨P, eP⟩ : ∃ P, P = aP A := ⟨_, rfl⟩
      rw [← eP] at hR g1 n3
      obtain ⟨n, en⟩ : ∃ n, n = P.1.length := ⟨_, rfl⟩
      have e3 := hR.1
      have hz := hR.2.2.1
      rw [← en] at e3 g1 n3 hz
      have c0 : a 5 0 0 3 ≤ 0 ↔ n ≤ 0 := i_le (b := 0) e3 rfl (by omega) (by decide)
      have c1 : a 5 0 0 3 ≤ 1 ↔ n ≤ 1 := i_le (b := 1) e3 rfl (by omega) (by decide)
      have c2 : a 5 0 0 3 ≤ 2 ↔ n ≤ 2 := i_le (b := 2) e3 rfl (by omega) (by decide)
      have i3 : vp_in 3 (al 5 0) := inA 101 (n := 3) rfl rfl (by decide) (by decide)
      have i0 : vp_in 0 (al 5 0) := inA 101 (n := 0) rfl rfl (by decide) (by decide)
      have i1 : vp_in 1 (al 5 0) := inA 101 (n := 1) rfl rfl (by decide) (by decide)
      have i2 : vp_in 2 (al 5 0) := inA 101 (n := 2) rfl rfl (by decide) (by decide)
      refine hX [] 90 _ _ _ _ _ ?_
      refine ⟨i0, i3, ⟨fun q0 => ⟨i1, i3, ⟨fun q1 => ⟨i2, i3, ⟨fun q2 => ?_, fun q2 => ?_⟩⟩, fun q1 => ?_⟩⟩, fun q0 => ⟨i1, i3, ⟨fun q1 => ⟨i2, i3, ⟨fun q2 => ?_, fun q2 => ?_⟩⟩, fun q1 => ⟨i2, i3, ⟨fun q2 => ?_, fun q2 => ?_⟩⟩⟩⟩⟩⟩
      · have q0 := c0.mp q0
        have hn : n = 0 := by omega
        refine pI g1 ?_
        show _ = a 5 0 0 0 * b2i (decide (¬ (0 : Int32) = 0)) + a 5 0 0 1 * b2i (decide (¬ (0 : Int32) = 0)) + a 5 0 0 2 * b2i (decide (¬ (0 : Int32) = 0))
        rw [mul_b0, mul_b0, mul_b0, hn]
        rfl
      · have q0 := c0.mp q0
        exact absurd (c2.mpr (by omega)) q2
      · have q0 := c0.mp q0
        exact absurd (c1.mpr (by omega)) q1
      · have q1 := c1.mp q1
        have q0 : ¬ n ≤ 0 := fun z => q0 (c0.mpr z)
        have hn : n = 1 := by omega
        refine pI g1 ?_
        show _ = a 5 0 0 0 * b2i (decide (¬ (1 : Int32) = 0)) + a 5 0 0 1 * b2i (decide (¬ (0 : Int32) = 0)) + a 5 0 0 2 * b2i (decide (¬ (0 : Int32) = 0))
        rw [mul_b0, mul_b0, mul_b1, hn, Int32.add_zero, Int32.add_zero, hz 0 (by omega)]
        exact congrArg nI (Nat.zero_add _)
      · have q1 := c1.mp q1
        exact absurd (c2.mpr (by omega)) q2
      · have q2 := c2.mp q2
        have q1 : ¬ n ≤ 1 := fun z => q1 (c1.mpr z)
        have hn : n = 2 := by omega
        refine pI g1 ?_
        show _ = a 5 0 0 0 * b2i (decide (¬ (1 : Int32) = 0)) + a 5 0 0 1 * b2i (decide (¬ (1 : Int32) = 0)) + a 5 0 0 2 * b2i (decide (¬ (0 : Int32) = 0))
        rw [mul_b0, mul_b1, mul_b1, hn, Int32.add_zero, hz 0 (by omega), hz 1 (by omega), nI_add]
        exact congrArg nI (by show 0 + ar P 0 + ar P 1 = _; omega)
      · have q2 : ¬ n ≤ 2 := fun z => q2 (c2.mpr z)
        have hn : n = 3 := by omega
        refine pI g1 ?_
        show _ = a 5 0 0 0 * b2i (decide (¬ (1 : Int32) = 0)) + a 5 0 0 1 * b2i (decide (¬ (1 : Int32) = 0)) + a 5 0 0 2 * b2i (decide (¬ (1 : Int32) = 0))
        rw [mul_b1, mul_b1, mul_b1, hn, hz 0 (by omega), hz 1 (by omega), hz 2 (by omega), nI_add, nI_add]
        exact congrArg nI (by show 0 + ar P 0 + ar P 1 + ar P 2 = _; omega)
    · rw [selI_in 5 (sw q) (Nat.le_of_ble_eq_true rfl)] at g0
      exact ⟨aP A, hA.1, hW, hA.eo, fun f1 a1 hF => g0 f1 a1 hF⟩
    · rw [selI_out (q.imp id (fun z => by simp only [List.length_cons, List.length_nil]; omega))] at g0
      exact g0 f a (FG.rf f a)
  · exact h.elim
theorem shX5_count : ∀ As f a Q, sX5_count As f a Q → ∃ i r, As = .inr (.inr (5, i, 0)) :: r := by
  intro As f a Q h
  unfold sX5_count at h
  split at h
  · exact ⟨_, _, rfl⟩
  · exact h.elim
theorem mX5_count {g : Gm} (hg : GmOK g) : MetC g yX5_count cX5_count 2 (some .int) 6 sX5_count := by
  refine MetC_of hg eX5_count (eokX5_count hg) (by decide +kernel) (fun av f a post h => ?_) rX5_count
  unfold sX5_count at h
  split at h
  · exact Nat.le_of_ble_eq_true rfl
  · exact h.elim
