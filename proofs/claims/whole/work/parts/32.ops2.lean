def anWord (A : Ab) (x k : Int32) : Int32 := if isG A x && decide (0 ≤ k) then (if k < nI (ge (clo (aP A)) x.toNatClampNeg).2.2.2.2.2.1 then nI (wordU (clo (aP A)) ((ge (clo (aP A)) x.toNatClampNeg).2.2.2.2.2.1 - 1 - k.toNatClampNeg) x.toNatClampNeg) else -4) else -1
def sX4_word : SP := fun As f a Q => match As with
  | [.inr (.inr (4, 0, 0)), .inl x, .inl k] => ∃ A, RepC f a A ∧ OKA A ∧ ∀ f' a', RepC f' a' A → S5 f a f' a' → Q (some (.inl (anWord A x k))) f' a'
  | _ => False
def eX4_word : En := (tX4_word, [(83, false, 1, sX4_fresh), (163, false, 2, sX0_has), (190, false, 3, sX0_callOfWord)], fdX4, [], 0)
theorem eokX4_word {g : Gm} (hg : GmOK g) : EnvOK g 6 RX4 cX4_word (some .int) eX4_word := ⟨okX4_word, fun _ _ _ _ h => as2_all (P := fun i v => CallOK g 6 RX4 i v.1 v.2.1 v.2.2) (l := eX4_word.2.1) ⟨callV_ok (t := 4) hg (mX4_fresh hg) kX4_fresh mlX4_83 qX4_fresh.1 qX4_fresh.2 ⟨by decide, by decide⟩ ⟨_, _, rfl⟩ shX4_fresh, callV_ok (t := 0) hg (mX0_has hg) kX0_has mlX4_163 qX0_has.1 qX0_has.2 ⟨by decide, by decide⟩ ⟨_, _, rfl⟩ shX0_has, callV_ok (t := 0) hg (mX0_callOfWord hg) kX0_callOfWord mlX4_190 qX0_callOfWord.1 qX0_callOfWord.2 ⟨by decide, by decide⟩ ⟨_, _, rfl⟩ shX0_callOfWord, trivial⟩ h, fdX4_ok, (fun _ _ h => by cases h), rfl⟩
theorem rX4_word (av : List AV) (f : FF) (a : AA) (post : PT) (h : sX4_word av f a post) (X : XT) (hX : Clo eX4_word post X) : X 0 (padL 4 (ent av)) [] f a := by
  unfold sX4_word at h
  split at h
  · rename_i x k
    obtain ⟨A, hA, hO, h⟩ := h
    have hw := clo_w hO
    unfold anWord at h
    refine hX [] 90 _ _ _ _ _ ?_
    refine ⟨A, hA, hO, fun f1 a1 hA1 hG hS => ?_⟩
    have h := h f1 a1 hA1 hS
    have eF : b2i (decide (0 ≤ x ∧ x < f1 0 0 4)) = b2i (isG A x) := by rw [hG.1.1]; rfl
    refine ⟨fun d => ?_, fun d => ?_⟩
    · rw [eF] at d
      rw [if_neg (by simp [b2i_e0.mp d])] at h
      exact h
    · rw [eF] at d
      have d := b2i_n0.mp d
      refine ⟨fun d2 => ?_, fun d2 => ?_⟩
      · rw [if_pos (by simp [d, d2])] at h
        obtain ⟨g, rfl, hg, hg3⟩ := isG_i hO d
        obtain ⟨m, hm, rfl⟩ := ge0 (Int32.not_lt.mpr d2)
        rw [nI_clamp (show g < 2 ^ 31 by omega), nI_clamp hm] at h
        have he := hw.1 g hg
        have hE := hG.1.2.2.1 g hg
        have hwl := he.2.2.2.2.2.2.2.1
        have cg : (nI g).toNatClampNeg = g := nI_clamp (by omega)
        refine ⟨inA 729 rfl rfl hg3 (by decide), ?_⟩
        rw [cg, hE.2.2.2.2.1]
        refine ⟨fun q => ?_, fun q => ?_⟩
        · rw [if_neg (Int32.not_lt.mpr q)] at h
          exact h
        · rw [if_pos (Int32.not_le.mp q)] at h
          exact ⟨_, g, m, hG.1, hw, rfl, hg, rfl, (nI_ltI hm (by omega)).mp (Int32.not_le.mp q), h⟩
      · rw [if_neg (by simp [d2])] at h
        exact h
  · exact h.elim
theorem shX4_word : ∀ As f a Q, sX4_word As f a Q → ∃ i r, As = .inr (.inr (4, i, 0)) :: r := by
  intro As f a Q h
  unfold sX4_word at h
  split at h
  · exact ⟨_, _, rfl⟩
  · exact h.elim
theorem mX4_word {g : Gm} (hg : GmOK g) : MetC g yX4_word cX4_word 4 (some .int) 6 sX4_word := by
  refine MetC_of hg eX4_word (eokX4_word hg) (by decide +kernel) (fun av f a post h => ?_) rX4_word
  unfold sX4_word at h
  split at h
  · exact Nat.le_of_ble_eq_true rfl
  · exact h.elim
def anFind (A : Ab) (x y z : Int32) : Int32 := if isF A x && (isF A y && decide (0 ≤ z ∧ z < 81)) then oN (fnd (clo (aP A)) (pl x.toNatClampNeg y.toNatClampNeg z.toNatClampNeg)) else -1
def sX4_find : SP := fun As f a Q => match As with
  | [.inr (.inr (4, 0, 0)), .inl x, .inl y, .inl z] => ∃ A, RepC f a A ∧ OKA A ∧ ∀ f' a', RepC f' a' A → S5 f a f' a' → Q (some (.inl (anFind A x y z))) f' a'
  | _ => False
def eX4_find : En := (tX4_find, [(108, false, 2, sX1_hasFunction), (83, false, 1, sX4_fresh), (193, false, 4, sX0_at), (196, true, 1, sX4_orNone)], fdX4, [], 0)
theorem eokX4_find {g : Gm} (hg : GmOK g) : EnvOK g 6 RX4 cX4_find (some .int) eX4_find := ⟨okX4_find, fun _ _ _ _ h => as2_all (P := fun i v => CallOK g 6 RX4 i v.1 v.2.1 v.2.2) (l := eX4_find.2.1) ⟨callV_ok (t := 1) hg (mX1_hasFunction hg) kX1_hasFunction mlX4_108 qX1_hasFunction.1 qX1_hasFunction.2 ⟨by decide, by decide⟩ ⟨_, _, rfl⟩ shX1_hasFunction, callV_ok (t := 4) hg (mX4_fresh hg) kX4_fresh mlX4_83 qX4_fresh.1 qX4_fresh.2 ⟨by decide, by decide⟩ ⟨_, _, rfl⟩ shX4_fresh, callV_ok (t := 0) hg (mX0_at hg) kX0_at mlX4_193 qX0_at.1 qX0_at.2 ⟨by decide, by decide⟩ ⟨_, _, rfl⟩ shX0_at, callS_ok hg (mX4_orNone hg) kX4_orNone mlX4_196 qX4_orNone ⟨by decide, by decide⟩, trivial⟩ h, fdX4_ok, (fun _ _ h => by cases h), rfl⟩
theorem fnd_lt {L : List Gr} (hL : WL L) {p : Nat} : ∀ g, fnd L p = some g → g < 1000 := fun g hg => by
  have := (fnd_some hg).1
  have := WL_len hL
  omega
theorem rX4_find (av : List AV) (f : FF) (a : AA) (post : PT) (h : sX4_find av f a post) (X : XT) (hX : Clo eX4_find post X) : X 0 (padL 4 (ent av)) [] f a := by
  unfold sX4_find at h
  split at h
  · rename_i x y z
    obtain ⟨A, hA, hO, h⟩ := h
    have hw := clo_w hO
    unfold anFind at h
    have h0 := h f a hA (S5.rf f a)
    refine hX [] 90 _ _ _ _ _ ?_
    have eF : ∀ x, b2i (decide (0 ≤ x ∧ x < f 1 0 4)) = b2i (isF A x) := fun x => by rw [hA.1.1]; rfl
    refine ⟨fun d => ?_, fun d => ?_⟩
    · rw [eF] at d
      rw [if_neg (by simp [b2i_e0.mp d])] at h0
      exact h0
    · rw [eF] at d
      have d := b2i_n0.mp d
      refine ⟨fun d2 => ?_, fun d2 => ?_⟩
      · rw [eF] at d2
        rw [if_neg (by simp [b2i_e0.mp d2])] at h0
        exact h0
      · rw [eF] at d2
        have d2 := b2i_n0.mp d2
        refine ⟨fun d3 => ?_, fun d3 => ⟨fun d4 => ?_, fun d4 => ?_⟩⟩
        · rw [if_neg (by simp [Int32.not_le.mpr d3])] at h0
          exact h0
        · rw [if_pos (by simp [d, d2, Int32.not_lt.mp d3, d4])] at h
          obtain ⟨i, rfl, hi, hi3⟩ := isF_i hO d
          obtain ⟨j, rfl, hj, hj3⟩ := isF_i hO d2
          obtain ⟨c, hc, rfl⟩ := ge0 d3
          have hc81 : c < 81 := (nI_ltI (b := 81) hc (by decide)).mp d4
          rw [nI_clamp (show i < 2 ^ 31 by omega), nI_clamp (show j < 2 ^ 31 by omega), nI_clamp hc] at h
          refine ⟨A, hA, hO, fun f1 a1 hA1 hG hS => ⟨i, j, c, rfl, rfl, rfl, hi3, hj3, hc81, pI (h f1 a1 hA1 hS) ?_⟩⟩
          rw [hG.1.2.2.2.1 _ (pl_lt hi3 hj3 hc81)]
          exact (oN_i (fnd_lt hw)).symm
        · rw [if_neg (by simp [Int32.not_lt.mp d4])] at h0
          exact h0
  · exact h.elim
theorem shX4_find : ∀ As f a Q, sX4_find As f a Q → ∃ i r, As = .inr (.inr (4, i, 0)) :: r := by
  intro As f a Q h
  unfold sX4_find at h
  split at h
  · exact ⟨_, _, rfl⟩
  · exact h.elim
theorem mX4_find {g : Gm} (hg : GmOK g) : MetC g yX4_find cX4_find 4 (some .int) 6 sX4_find := by
  refine MetC_of hg eX4_find (eokX4_find hg) (by decide +kernel) (fun av f a post h => ?_) rX4_find
  unfold sX4_find at h
  split at h
  · exact Nat.le_of_ble_eq_true rfl
  · exact h.elim
def anCompose (A : Ab) (x y : Int32) : Int32 := if isG A x && isG A y then (if (ge (clo (aP A)) x.toNatClampNeg).2.1 = (ge (clo (aP A)) y.toNatClampNeg).1 then oN (fnd (clo (aP A)) (pl (ge (clo (aP A)) x.toNatClampNeg).1 (ge (clo (aP A)) y.toNatClampNeg).2.1 (compN (ge (clo (aP A)) x.toNatClampNeg).2.2.1 (ge (clo (aP A)) y.toNatClampNeg).2.2.1))) else -4) else -1
def sX4_compose : SP := fun As f a Q => match As with
  | [.inr (.inr (4, 0, 0)), .inl x, .inl y] => ∃ A, RepC f a A ∧ OKA A ∧ ∀ f' a', RepC f' a' A → S5 f a f' a' → Q (some (.inl (anCompose A x y))) f' a'
  | _ => False
def eX4_compose : En := (tX4_compose, [(83, false, 1, sX4_fresh), (163, false, 2, sX0_has), (169, false, 2, sX0_toOf), (166, false, 2, sX0_fromOf), (199, true, 2, sX0_composed), (140, true, 1, sX0_codeOf), (193, false, 4, sX0_at), (196, true, 1, sX4_orNone)], fdX4, [], 0)
theorem eokX4_compose {g : Gm} (hg : GmOK g) : EnvOK g 6 RX4 cX4_compose (some .int) eX4_compose := ⟨okX4_compose, fun _ _ _ _ h => as2_all (P := fun i v => CallOK g 6 RX4 i v.1 v.2.1 v.2.2) (l := eX4_compose.2.1) ⟨callV_ok (t := 4) hg (mX4_fresh hg) kX4_fresh mlX4_83 qX4_fresh.1 qX4_fresh.2 ⟨by decide, by decide⟩ ⟨_, _, rfl⟩ shX4_fresh, callV_ok (t := 0) hg (mX0_has hg) kX0_has mlX4_163 qX0_has.1 qX0_has.2 ⟨by decide, by decide⟩ ⟨_, _, rfl⟩ shX0_has, callV_ok (t := 0) hg (mX0_toOf hg) kX0_toOf mlX4_169 qX0_toOf.1 qX0_toOf.2 ⟨by decide, by decide⟩ ⟨_, _, rfl⟩ shX0_toOf, callV_ok (t := 0) hg (mX0_fromOf hg) kX0_fromOf mlX4_166 qX0_fromOf.1 qX0_fromOf.2 ⟨by decide, by decide⟩ ⟨_, _, rfl⟩ shX0_fromOf, callS_ok hg (mX0_composed hg) kX0_composed mlX4_199 qX0_composed ⟨by decide, by decide⟩, callS_ok hg (mX0_codeOf hg) kX0_codeOf mlX4_140 qX0_codeOf ⟨by decide, by decide⟩, callV_ok (t := 0) hg (mX0_at hg) kX0_at mlX4_193 qX0_at.1 qX0_at.2 ⟨by decide, by decide⟩ ⟨_, _, rfl⟩ shX0_at, callS_ok hg (mX4_orNone hg) kX4_orNone mlX4_196 qX4_orNone ⟨by decide, by decide⟩, trivial⟩ h, fdX4_ok, (fun _ _ h => by cases h), rfl⟩
theorem rX4_compose (av : List AV) (f : FF) (a : AA) (post : PT) (h : sX4_compose av f a post) (X : XT) (hX : Clo eX4_compose post X) : X 0 (padL 5 (ent av)) [] f a := by
  unfold sX4_compose at h
  split at h
  · rename_i x y
    obtain ⟨A, hA, hO, h⟩ := h
    have hw := clo_w hO
    unfold anCompose at h
    refine hX [] 90 _ _ _ _ _ ?_
    refine ⟨A, hA, hO, fun f1 a1 hA1 hG hS => ?_⟩
    have h := h f1 a1 hA1 hS
    have eF : ∀ x, b2i (decide (0 ≤ x ∧ x < f1 0 0 4)) = b2i (isG A x) := fun x => by rw [hG.1.1]; rfl
    refine ⟨fun d => ?_, fun d => ⟨fun d2 => ?_, fun d2 => ?_⟩⟩
    · rw [eF] at d
      rw [if_neg (by simp [b2i_e0.mp d])] at h
      exact h
    · rw [eF] at d d2
      have d := b2i_n0.mp d
      have d2 := b2i_n0.mp d2
      rw [if_pos (by simp [d, d2])] at h
      obtain ⟨g, rfl, hg, hg3⟩ := isG_i hO d
      obtain ⟨k, rfl, hk, hk3⟩ := isG_i hO d2
      have cg : (nI g).toNatClampNeg = g := nI_clamp (by omega)
      have ck : (nI k).toNatClampNeg = k := nI_clamp (by omega)
      rw [cg, ck] at h
      have he := hw.1 g hg
      have hE := hG.1.2.2.1 g hg
      have he2 := hw.1 k hk
      have hE2 := hG.1.2.2.1 k hk
      refine ⟨g, _, _, rfl, hg3, hE.2.1, he.1, he.2.1, k, _, _, rfl, hk3, hE2.2.1, he2.1, he2.2.1, fun q => ?_, fun q => ?_⟩
      · have q := (nI_eq (by have := he.2.1; omega) (by have := he2.1; omega)).mp q
        rw [if_pos q] at h
        refine ⟨inA 729 rfl rfl hg3 (by decide), inA 729 rfl rfl hk3 (by decide), _, _, he.2.2.1, he2.2.2.1, by rw [cg]; exact hE.1, by rw [ck]; exact hE2.1, ?_⟩
        refine ⟨g, _, _, rfl, hg3, hE.2.1, he.1, he.2.1, k, _, _, rfl, hk3, hE2.2.1, he2.1, he2.2.1, _, compN_lt _ _, rfl, _, _, _, rfl, rfl, rfl, he.1, he2.2.1, compN_lt _ _, pI h ?_⟩
        rw [hG.1.2.2.2.1 _ (pl_lt he.1 he2.2.1 (compN_lt _ _))]
        exact (oN_i (fnd_lt hw)).symm
      · rw [if_neg (fun z => q (by rw [z]))] at h
        exact h
    · rw [eF] at d2
      rw [if_neg (by simp [b2i_e0.mp d2])] at h
      exact h
  · exact h.elim
theorem shX4_compose : ∀ As f a Q, sX4_compose As f a Q → ∃ i r, As = .inr (.inr (4, i, 0)) :: r := by
  intro As f a Q h
  unfold sX4_compose at h
  split at h
  · exact ⟨_, _, rfl⟩
  · exact h.elim
theorem mX4_compose {g : Gm} (hg : GmOK g) : MetC g yX4_compose cX4_compose 5 (some .int) 6 sX4_compose := by
  refine MetC_of hg eX4_compose (eokX4_compose hg) (by decide +kernel) (fun av f a post h => ?_) rX4_compose
  unfold sX4_compose at h
  split at h
  · exact Nat.le_of_ble_eq_true rfl
  · exact h.elim
def anWitness (A : Ab) (x : Int32) : Int32 := if isF A x then oN (firstU (loopOfB (clo (aP A)) x.toNatClampNeg) (clo (aP A)).length 0) else -1
def sX4_witness : SP := fun As f a Q => match As with
  | [.inr (.inr (4, 0, 0)), .inl x] => ∃ A, RepC f a A ∧ OKA A ∧ ∀ f' a', RepC f' a' A → S5 f a f' a' → Q (some (.inl (anWitness A x))) f' a'
  | _ => False
def eX4_witness : En := (tX4_witness, [(108, false, 2, sX1_hasFunction), (83, false, 1, sX4_fresh), (122, false, 2, sX0_firstLoopOf), (196, true, 1, sX4_orNone)], fdX4, [], 0)
theorem eokX4_witness {g : Gm} (hg : GmOK g) : EnvOK g 6 RX4 cX4_witness (some .int) eX4_witness := ⟨okX4_witness, fun _ _ _ _ h => as2_all (P := fun i v => CallOK g 6 RX4 i v.1 v.2.1 v.2.2) (l := eX4_witness.2.1) ⟨callV_ok (t := 1) hg (mX1_hasFunction hg) kX1_hasFunction mlX4_108 qX1_hasFunction.1 qX1_hasFunction.2 ⟨by decide, by decide⟩ ⟨_, _, rfl⟩ shX1_hasFunction, callV_ok (t := 4) hg (mX4_fresh hg) kX4_fresh mlX4_83 qX4_fresh.1 qX4_fresh.2 ⟨by decide, by decide⟩ ⟨_, _, rfl⟩ shX4_fresh, callV_ok (t := 0) hg (mX0_firstLoopOf hg) kX0_firstLoopOf mlX4_122 qX0_firstLoopOf.1 qX0_firstLoopOf.2 ⟨by decide, by decide⟩ ⟨_, _, rfl⟩ shX0_firstLoopOf, callS_ok hg (mX4_orNone hg) kX4_orNone mlX4_196 qX4_orNone ⟨by decide, by decide⟩, trivial⟩ h, fdX4_ok, (fun _ _ h => by cases h), rfl⟩
theorem rX4_witness (av : List AV) (f : FF) (a : AA) (post : PT) (h : sX4_witness av f a post) (X : XT) (hX : Clo eX4_witness post X) : X 0 (padL 2 (ent av)) [] f a := by
  unfold sX4_witness at h
  split at h
  · rename_i x
    obtain ⟨A, hA, hO, h⟩ := h
    have hw := clo_w hO
    have hlen := WL_len hw
    unfold anWitness at h
    refine hX [] 90 _ _ _ _ _ ?_
    have eF : b2i (decide (0 ≤ x ∧ x < f 1 0 4)) = b2i (isF A x) := by rw [hA.1.1]; rfl
    refine ⟨fun d => ?_, fun d => ?_⟩
    · rw [eF] at d
      have d := b2i_n0.mp d
      rw [if_pos d] at h
      obtain ⟨i, rfl, hi, hi3⟩ := isF_i hO d
      rw [nI_clamp (show i < 2 ^ 31 by omega)] at h
      exact ⟨A, hA, hO, fun f1 a1 hA1 hG hS => ⟨_, i, hG.1, hw, rfl, hi3, pI (h f1 a1 hA1 hS) (oN_i (first_lt (by omega))).symm⟩⟩
    · rw [eF] at d
      rw [if_neg (by rw [b2i_e0.mp d]; decide)] at h
      exact h f a hA (S5.rf f a)
  · exact h.elim
theorem shX4_witness : ∀ As f a Q, sX4_witness As f a Q → ∃ i r, As = .inr (.inr (4, i, 0)) :: r := by
  intro As f a Q h
  unfold sX4_witness at h
  split at h
  · exact ⟨_, _, rfl⟩
  · exact h.elim
theorem mX4_witness {g : Gm} (hg : GmOK g) : MetC g yX4_witness cX4_witness 2 (some .int) 6 sX4_witness := by
  refine MetC_of hg eX4_witness (eokX4_witness hg) (by decide +kernel) (fun av f a post h => ?_) rX4_witness
  unfold sX4_witness at h
  split at h
  · exact Nat.le_of_ble_eq_true rfl
  · exact h.elim
def anLoops (A : Ab) : Int32 := nI (cnt (fun g => loopE (ge (clo (aP A)) g) && !needB (clo (aP A)) g) (clo (aP A)).length)
def sX4_loops : SP := fun As f a Q => match As with
  | [.inr (.inr (4, 0, 0))] => ∃ A, RepC f a A ∧ OKA A ∧ ∀ f' a', RepC f' a' A → S5 f a f' a' → Q (some (.inl (anLoops A))) f' a'
  | _ => False
def eX4_loops : En := (tX4_loops, [(83, false, 1, sX4_fresh), (231, false, 1, sX0_neededLoops)], fdX4, [], 0)
theorem eokX4_loops {g : Gm} (hg : GmOK g) : EnvOK g 6 RX4 cX4_loops (some .int) eX4_loops := ⟨okX4_loops, fun _ _ _ _ h => as2_all (P := fun i v => CallOK g 6 RX4 i v.1 v.2.1 v.2.2) (l := eX4_loops.2.1) ⟨callV_ok (t := 4) hg (mX4_fresh hg) kX4_fresh mlX4_83 qX4_fresh.1 qX4_fresh.2 ⟨by decide, by decide⟩ ⟨_, _, rfl⟩ shX4_fresh, callV_ok (t := 0) hg (mX0_neededLoops hg) kX0_neededLoops mlX4_231 qX0_neededLoops.1 qX0_neededLoops.2 ⟨by decide, by decide⟩ ⟨_, _, rfl⟩ shX0_neededLoops, trivial⟩ h, fdX4_ok, (fun _ _ h => by cases h), rfl⟩
theorem rX4_loops (av : List AV) (f : FF) (a : AA) (post : PT) (h : sX4_loops av f a post) (X : XT) (hX : Clo eX4_loops post X) : X 0 (padL 1 (ent av)) [] f a := by
  unfold sX4_loops at h
  split at h
  · obtain ⟨A, hA, hO, h⟩ := h
    refine hX [] 90 _ _ _ _ _ ?_
    exact ⟨A, hA, hO, fun f1 a1 hA1 hG hS => ⟨_, hG.1, clo_w hO, h f1 a1 hA1 hS⟩⟩
  · exact h.elim
theorem shX4_loops : ∀ As f a Q, sX4_loops As f a Q → ∃ i r, As = .inr (.inr (4, i, 0)) :: r := by
  intro As f a Q h
  unfold sX4_loops at h
  split at h
  · exact ⟨_, _, rfl⟩
  · exact h.elim
theorem mX4_loops {g : Gm} (hg : GmOK g) : MetC g yX4_loops cX4_loops 1 (some .int) 6 sX4_loops := by
  refine MetC_of hg eX4_loops (eokX4_loops hg) (by decide +kernel) (fun av f a post h => ?_) rX4_loops
  unfold sX4_loops at h
  split at h
  · exact Nat.le_of_ble_eq_true rfl
  · exact h.elim
def sX4_fault : SP := fun As f a Q => match As with
  | [.inr (.inr (4, 0, 0))] => ∃ A, RepC f a A ∧ OKA A ∧ ∀ f' a', RepC f' a' A → S5 f a f' a' → Q (some (.inl (nI (aFt A)))) f' a'
  | _ => False
def eX4_fault : En := (tX4_fault, [], fdX4, [], 0)
theorem eokX4_fault {g : Gm} (hg : GmOK g) : EnvOK g 0 RX4 cX4_fault (some .int) eX4_fault := ⟨okX4_fault, (fun _ _ _ _ h => by cases h), fdX4_ok, (fun _ _ h => by cases h), rfl⟩
theorem rX4_fault (av : List AV) (f : FF) (a : AA) (post : PT) (h : sX4_fault av f a post) (X : XT) (hX : Clo eX4_fault post X) : X 0 (padL 1 (ent av)) [] f a := by
  unfold sX4_fault at h
  split at h
  · obtain ⟨A, hA, hO, h⟩ := h
    refine hX [] 90 _ _ _ _ _ ?_
    exact pI (h f a hA (S5.rf f a)) hA.2.1.2.2.symm
  · exact h.elim
theorem shX4_fault : ∀ As f a Q, sX4_fault As f a Q → ∃ i r, As = .inr (.inr (4, i, 0)) :: r := by
  intro As f a Q h
  unfold sX4_fault at h
  split at h
  · exact ⟨_, _, rfl⟩
  · exact h.elim
theorem mX4_fault {g : Gm} (hg : GmOK g) : MetC g yX4_fault cX4_fault 1 (some .int) 0 sX4_fault := by
  refine MetC_of hg eX4_fault (eokX4_fault hg) (by decide +kernel) (fun av f a post h => ?_) rX4_fault
  unfold sX4_fault at h
  split at h
  · exact Nat.le_of_ble_eq_true rfl
  · exact h.elim
def sX4_torn : SP := fun As f a Q => match As with
  | [.inr (.inr (4, 0, 0))] => ∃ A, RepC f a A ∧ OKA A ∧ ∀ f' a', RepC f' a' A → S5 f a f' a' → Q (some (.inl (nI (aTn A)))) f' a'
  | _ => False
def eX4_torn : En := (tX4_torn, [], fdX4, [], 0)
theorem eokX4_torn {g : Gm} (hg : GmOK g) : EnvOK g 0 RX4 cX4_torn (some .int) eX4_torn := ⟨okX4_torn, (fun _ _ _ _ h => by cases h), fdX4_ok, (fun _ _ h => by cases h), rfl⟩
theorem rX4_torn (av : List AV) (f : FF) (a : AA) (post : PT) (h : sX4_torn av f a post) (X : XT) (hX : Clo eX4_torn post X) : X 0 (padL 1 (ent av)) [] f a := by
  unfold sX4_torn at h
  split at h
  · obtain ⟨A, hA, hO, h⟩ := h
    refine hX [] 90 _ _ _ _ _ ?_
    exact pI (h f a hA (S5.rf f a)) hA.2.2.2.2.1.symm
  · exact h.elim
theorem shX4_torn : ∀ As f a Q, sX4_torn As f a Q → ∃ i r, As = .inr (.inr (4, i, 0)) :: r := by
  intro As f a Q h
  unfold sX4_torn at h
  split at h
  · exact ⟨_, _, rfl⟩
  · exact h.elim
theorem mX4_torn {g : Gm} (hg : GmOK g) : MetC g yX4_torn cX4_torn 1 (some .int) 0 sX4_torn := by
  refine MetC_of hg eX4_torn (eokX4_torn hg) (by decide +kernel) (fun av f a post h => ?_) rX4_torn
  unfold sX4_torn at h
  split at h
  · exact Nat.le_of_ble_eq_true rfl
  · exact h.elim
def anCount (A : Ab) (x : Int32) : Int32 := selI x [b2i (aI A 0).isSome + b2i (aI A 1).isSome, nI (plainN (aP A)), nI (aT A).length, (match aS A 0 with
  | none => -4
  | some q => nI q.2.1), nI (sumN (ar (aP A)) (aP A).1.length), nI (sumN (fun g => (ge (clo (aP A)) g).2.2.1) (clo (aP A)).length)] (-1)
def sX4_count : SP := fun As f a Q => match As with
  | [.inr (.inr (4, 0, 0)), .inl x] => ∃ A, RepC f a A ∧ OKA A ∧ ∀ f' a', RepC f' a' A → S5 f a f' a' → Q (some (.inl (anCount A x))) f' a'
  | _ => False
def eX4_count : En := (tX4_count, [(97, true, 1, sX4_bit), (272, false, 1, sX1_plainNumbers), (276, false, 1, sX1_arities), (83, false, 1, sX4_fresh), (279, false, 1, sX0_sumOfCodes)], fdX4, [], 0)
theorem eokX4_count {g : Gm} (hg : GmOK g) : EnvOK g 6 RX4 cX4_count (some .int) eX4_count := ⟨okX4_count, fun _ _ _ _ h => as2_all (P := fun i v => CallOK g 6 RX4 i v.1 v.2.1 v.2.2) (l := eX4_count.2.1) ⟨callS_ok hg (mX4_bit hg) kX4_bit mlX4_97 qX4_bit ⟨by decide, by decide⟩, callV_ok (t := 1) hg (mX1_plainNumbers hg) kX1_plainNumbers mlX4_272 qX1_plainNumbers.1 qX1_plainNumbers.2 ⟨by decide, by decide⟩ ⟨_, _, rfl⟩ shX1_plainNumbers, callV_ok (t := 1) hg (mX1_arities hg) kX1_arities mlX4_276 qX1_arities.1 qX1_arities.2 ⟨by decide, by decide⟩ ⟨_, _, rfl⟩ shX1_arities, callV_ok (t := 4) hg (mX4_fresh hg) kX4_fresh mlX4_83 qX4_fresh.1 qX4_fresh.2 ⟨by decide, by decide⟩ ⟨_, _, rfl⟩ shX4_fresh, callV_ok (t := 0) hg (mX0_sumOfCodes hg) kX0_sumOfCodes mlX4_279 qX0_sumOfCodes.1 qX0_sumOfCodes.2 ⟨by decide, by decide⟩ ⟨_, _, rfl⟩ shX0_sumOfCodes, trivial⟩ h, fdX4_ok, (fun _ _ h => by cases h), rfl⟩
theorem rX4_count (av : List AV) (f : FF) (a : AA) (post : PT) (h : sX4_count av f a post) (X : XT) (hX : Clo eX4_count post X) : X 0 (padL 2 (ent av)) [] f a := by
  unfold sX4_count at h
  split at h
  · rename_i x
    obtain ⟨A, hA, hO, h⟩ := h
    have hw := clo_w hO
    unfold anCount at h
    refine hX [] 90 _ _ _ _ _ ?_
    refine ⟨⟨fun q => ?_, fun q => ?_, fun q => ?_, fun q => ?_, fun q => ?_, fun q => ?_, trivial⟩, fun q => ?_⟩
    · rw [selI_in 0 (sw q) (Nat.le_of_ble_eq_true rfl)] at h
      refine ⟨inA (n := 0) 2 rfl rfl (by decide) (by decide), inA (n := 1) 2 rfl rfl (by decide) (by decide), pI (h f a hA (S5.rf f a)) ?_⟩
      have e0 : a 4 0 5 (0 : Int32).toNatClampNeg = b2i (aI A 0).isSome := (hA.2.2.1 0 (by decide)).1
      have e1 : a 4 0 5 (1 : Int32).toNatClampNeg = b2i (aI A 1).isSome := (hA.2.2.1 1 (by decide)).1
      dsimp only
      rw [e0, e1, b2i_b, b2i_b]
      rfl
    · rw [selI_in 1 (sw q) (Nat.le_of_ble_eq_true rfl)] at h
      exact ⟨_, hA.1, hO.1, h f a hA (S5.rf f a)⟩
    · rw [selI_in 2 (sw q) (Nat.le_of_ble_eq_true rfl)] at h
      exact pI (h f a hA (S5.rf f a)) hA.2.1.1.symm
    · rw [selI_in 3 (sw q) (Nat.le_of_ble_eq_true rfl)] at h
      have h := h f a hA (S5.rf f a)
      have hs := hA.2.2.2.1 0 (by decide)
      refine ⟨inA (n := 0) 4 rfl rfl (by decide) (by decide), ?_⟩
      cases hsh : aS A 0 with
      | none =>
        rw [hsh] at hs h
        refine ⟨fun d => absurd hs d, fun d => h⟩
      | some q0 =>
        obtain ⟨l, n, cs⟩ := q0
        rw [hsh] at hs h
        have hl := (hO.2.2.2.2.1 0 (by decide) l n cs hsh).1
        refine ⟨fun d => ?_, fun d => ?_⟩
        · exact ⟨inA (n := 0) 4 rfl rfl (by decide) (by decide), pI h hs.2.1.symm⟩
        · have d : f 2 0 1 = -1 := d
          rw [hs.1] at d
          exact absurd (by rw [d]; decide) (nI_pos (show l < 2 ^ 31 by omega))
    · rw [selI_in 4 (sw q) (Nat.le_of_ble_eq_true rfl)] at h
      exact ⟨_, hA.1, hO.1, h f a hA (S5.rf f a)⟩
    · rw [selI_in 5 (sw q) (Nat.le_of_ble_eq_true rfl)] at h
      exact ⟨A, hA, hO, fun f1 a1 hA1 hG hS => ⟨_, hG.1, hw, h f1 a1 hA1 hS⟩⟩
    · rw [selI_out (q.imp id (fun z => by simp only [List.length_cons, List.length_nil]; omega))] at h
      exact h f a hA (S5.rf f a)
  · exact h.elim
theorem shX4_count : ∀ As f a Q, sX4_count As f a Q → ∃ i r, As = .inr (.inr (4, i, 0)) :: r := by
  intro As f a Q h
  unfold sX4_count at h
  split at h
  · exact ⟨_, _, rfl⟩
  · exact h.elim
theorem mX4_count {g : Gm} (hg : GmOK g) : MetC g yX4_count cX4_count 2 (some .int) 6 sX4_count := by
  refine MetC_of hg eX4_count (eokX4_count hg) (by decide +kernel) (fun av f a post h => ?_) rX4_count
  unfold sX4_count at h
  split at h
  · exact Nat.le_of_ble_eq_true rfl
  · exact h.elim
