/-! what the reference says of a graph -/
def GMg (f : FF) (a : AA) (L : List Gr) (x : Int32) (g : Nat) : Prop := GM (f 5 0) (a 5 0) L ∧ WL L ∧ x = nI g ∧ g < L.length
theorem GMg.e {f : FF} {a : AA} {L : List Gr} {x : Int32} {g : Nat} (h : GMg f a L x g) : GME (a 5 0) x.toNatClampNeg (ge L g) := by
  have := WL_len h.2.1
  rw [h.2.2.1, nI_clamp (by have := h.2.2.2; omega)]
  exact h.1.2.1 g h.2.2.2
theorem GMg.i {f : FF} {a : AA} {L : List Gr} {x : Int32} {g : Nat} (h : GMg f a L x g) {k : Nat} (hk : al 5 k = 729) : vp_in x (al 5 k) := inA 729 h.2.2.1 hk (by have := WL_len h.2.1; have := h.2.2.2; omega) (by decide)
def sX5_isIdle : SP := fun As f a Q => match As with
  | [.inr (.inr (5, 0, 0)), .inl x] => ∃ L g, GMg f a L x g ∧ Q (some (.inl (b2i (idleK (ge L g).1 (ge L g).2.1 (ge L g).2.2.1)))) f a
  | _ => False
def eX5_isIdle : En := (tX5_isIdle, [(168, true, 2, sX5_composed)], fdX5, [], 1)
theorem eokX5_isIdle {g : Gm} (hg : GmOK g) : EnvOK g 3 RX5 cX5_isIdle (some .boolean) eX5_isIdle := ⟨okX5_isIdle, fun _ _ _ _ h => as2_all (P := fun i v => CallOK g 3 RX5 i v.1 v.2.1 v.2.2) (l := eX5_isIdle.2.1) ⟨callS_ok hg (mX5_composed hg) kX5_composed mlX5_168 qX5_composed ⟨by decide, by decide⟩, trivial⟩ h, fdX5_ok, (fun _ _ h => by cases h), rfl⟩
theorem rX5_isIdle (av : List AV) (f : FF) (a : AA) (post : PT) (h : sX5_isIdle av f a post) (X : XT) (hX : Clo eX5_isIdle post X) : X 0 (padL 2 (ent av)) [] f a := by
  unfold sX5_isIdle at h
  split at h
  · rename_i x
    obtain ⟨L, g, hg, h⟩ := h
    have e := hg.e
    obtain ⟨o1, o2, o3, -⟩ := hg.2.1.1 g hg.2.2.2
    have c1 : a 5 0 12 x.toNatClampNeg = a 5 0 13 x.toNatClampNeg ↔ (ge L g).1 = (ge L g).2.1 := i_eq e.1 e.2.1 (by omega) (by omega)
    have c2 : nI (compN (ge L g).2.2.1 (ge L g).2.2.1) = a 5 0 14 x.toNatClampNeg ↔ compN (ge L g).2.2.1 (ge L g).2.2.1 = (ge L g).2.2.1 := i_eq rfl e.2.2.1 (by have := compN_lt (ge L g).2.2.1 (ge L g).2.2.1; omega) (by omega)
    unfold idleK at h
    refine hX [] 60 _ _ _ _ _ ?_
    refine ⟨hg.i rfl, hg.i rfl, ⟨fun q => pF h (by rw [decide_eq_false (fun z => q (c1.mpr z)), Bool.false_and]), fun q => ?_⟩⟩
    have q := c1.mp q
    refine ⟨hg.i rfl, hg.i rfl, (ge L g).2.2.1, (ge L g).2.2.1, e.2.2.1, e.2.2.1, o3, o3, hg.i rfl, ⟨fun q2 => ?_, fun q2 => ?_⟩⟩
    · exact pF h (by rw [decide_eq_true q, Bool.true_and, decide_eq_false (fun z => q2 (c2.mpr z))])
    · exact pT h (by rw [decide_eq_true q, Bool.true_and, decide_eq_true (c2.mp q2)])
  · exact h.elim
theorem shX5_isIdle : ∀ As f a Q, sX5_isIdle As f a Q → ∃ i r, As = .inr (.inr (5, i, 0)) :: r := by
  intro As f a Q h
  unfold sX5_isIdle at h
  split at h
  · exact ⟨_, _, rfl⟩
  · exact h.elim
theorem mX5_isIdle {g : Gm} (hg : GmOK g) : MetC g yX5_isIdle cX5_isIdle 2 (some .boolean) 3 sX5_isIdle := by
  refine MetC_of hg eX5_isIdle (eokX5_isIdle hg) (by decide +kernel) (fun av f a post h => ?_) rX5_isIdle
  unfold sX5_isIdle at h
  split at h
  · exact Nat.le_of_ble_eq_true rfl
  · exact h.elim
def sX5_fallsOf : SP := fun As f a Q => match As with
  | [.inr (.inr (5, 0, 0)), .inl x] => ∃ L g, GMg f a L x g ∧ Q (some (.inl (nI (fallN (ge L g).2.2.1)))) f a
  | _ => False
def eX5_fallsOf : En := (tX5_fallsOf, [(152, true, 3, sX5_relation), (171, true, 1, sX5_flag)], fdX5, [], 0)
theorem eokX5_fallsOf {g : Gm} (hg : GmOK g) : EnvOK g 2 RX5 cX5_fallsOf (some .int) eX5_fallsOf := ⟨okX5_fallsOf, fun _ _ _ _ h => as2_all (P := fun i v => CallOK g 2 RX5 i v.1 v.2.1 v.2.2) (l := eX5_fallsOf.2.1) ⟨callS_ok hg (mX5_relation hg) kX5_relation mlX5_152 qX5_relation ⟨by decide, by decide⟩, callS_ok hg (mX5_flag hg) kX5_flag mlX5_171 qX5_flag ⟨by decide, by decide⟩, trivial⟩ h, fdX5_ok, (fun _ _ h => by cases h), rfl⟩
theorem rX5_fallsOf (av : List AV) (f : FF) (a : AA) (post : PT) (h : sX5_fallsOf av f a post) (X : XT) (hX : Clo eX5_fallsOf post X) : X 0 (padL 3 (ent av)) [] f a := by
  unfold sX5_fallsOf at h
  split at h
  · rename_i x
    obtain ⟨L, g, hg, h⟩ := h
    have e := hg.e
    obtain ⟨o1, o2, o3, -⟩ := hg.2.1.1 g hg.2.2.2
    obtain ⟨c, ec⟩ : ∃ c, c = (ge L g).2.2.1 := ⟨_, rfl⟩
    have e14 := e.2.2.1
    rw [← ec] at h o3 e14
    have l0 := rl_lt c 0 0
    have l1 := rl_lt c 1 1
    have c0 : nI (rl c 0 0) = 2 ↔ rl c 0 0 = 2 := nI_eq (b := 2) (by omega) (by decide)
    have c1 : nI (rl c 1 1) = 2 ↔ rl c 1 1 = 2 := nI_eq (b := 2) (by omega) (by decide)
    unfold fallN at h
    refine hX [] 60 _ _ _ _ _ ?_
    refine ⟨hg.i rfl, c, 0, 0, e14, rfl, rfl, o3, by decide, by decide, ⟨fun q => ?_, fun q => ?_⟩⟩
    · rw [if_neg (fun z => q (c0.mpr z))] at h
      refine ⟨c, 1, 1, e14, rfl, rfl, o3, by decide, by decide, ⟨fun q2 => ?_, fun q2 => ?_⟩⟩
      · rw [if_neg (fun z => q2 (c1.mpr z))] at h
        exact pI h (by decide)
      · rw [if_pos (c1.mp q2)] at h
        exact pI h (by decide)
    · rw [if_pos (c0.mp q)] at h
      refine ⟨c, 1, 1, e14, rfl, rfl, o3, by decide, by decide, ⟨fun q2 => ?_, fun q2 => ?_⟩⟩
      · rw [if_neg (fun z => q2 (c1.mpr z))] at h
        exact pI h (by decide)
      · rw [if_pos (c1.mp q2)] at h
        exact pI h (by decide)
  · exact h.elim
theorem shX5_fallsOf : ∀ As f a Q, sX5_fallsOf As f a Q → ∃ i r, As = .inr (.inr (5, i, 0)) :: r := by
  intro As f a Q h
  unfold sX5_fallsOf at h
  split at h
  · exact ⟨_, _, rfl⟩
  · exact h.elim
theorem mX5_fallsOf {g : Gm} (hg : GmOK g) : MetC g yX5_fallsOf cX5_fallsOf 3 (some .int) 2 sX5_fallsOf := by
  refine MetC_of hg eX5_fallsOf (eokX5_fallsOf hg) (by decide +kernel) (fun av f a post h => ?_) rX5_fallsOf
  unfold sX5_fallsOf at h
  split at h
  · exact Nat.le_of_ble_eq_true rfl
  · exact h.elim
def sX5_isLoop : SP := fun As f a Q => match As with
  | [.inr (.inr (5, 0, 0)), .inl x] => ∃ L g, GMg f a L x g ∧ Q (some (.inl (b2i (loopE (ge L g))))) f a
  | _ => False
def eX5_isLoop : En := (tX5_isLoop, [(175, false, 2, sX5_isIdle), (179, false, 2, sX5_fallsOf)], fdX5, [], 1)
theorem eokX5_isLoop {g : Gm} (hg : GmOK g) : EnvOK g 4 RX5 cX5_isLoop (some .boolean) eX5_isLoop := ⟨okX5_isLoop, fun _ _ _ _ h => as2_all (P := fun i v => CallOK g 4 RX5 i v.1 v.2.1 v.2.2) (l := eX5_isLoop.2.1) ⟨callV_ok (t := 5) hg (mX5_isIdle hg) kX5_isIdle mlX5_175 qX5_isIdle.1 qX5_isIdle.2 ⟨by decide, by decide⟩ ⟨_, _, rfl⟩ shX5_isIdle, callV_ok (t := 5) hg (mX5_fallsOf hg) kX5_fallsOf mlX5_179 qX5_fallsOf.1 qX5_fallsOf.2 ⟨by decide, by decide⟩ ⟨_, _, rfl⟩ shX5_fallsOf, trivial⟩ h, fdX5_ok, (fun _ _ h => by cases h), rfl⟩
theorem fallN_lt (c : Nat) : fallN c < 4 := by
  unfold fallN
  split <;> split <;> decide
theorem rX5_isLoop (av : List AV) (f : FF) (a : AA) (post : PT) (h : sX5_isLoop av f a post) (X : XT) (hX : Clo eX5_isLoop post X) : X 0 (padL 2 (ent av)) [] f a := by
  unfold sX5_isLoop at h
  split at h
  · obtain ⟨L, g, hg, h⟩ := h
    unfold loopE loopK at h
    have hf := fallN_lt (ge L g).2.2.1
    have c0 : nI (fallN (ge L g).2.2.1) = 0 ↔ fallN (ge L g).2.2.1 = 0 := nI_eq (b := 0) (by omega) (by decide)
    refine hX [] 60 _ _ _ _ _ ?_
    refine ⟨L, g, hg, ⟨fun q => pF h (by rw [b2i_e0.mp q, Bool.and_false]), fun q => ⟨L, g, hg, ⟨fun q2 => ?_, fun q2 => ?_⟩⟩⟩⟩
    · exact pF h (by rw [decide_eq_false (fun z => q2 (c0.mpr z)), Bool.false_and])
    · exact pT h (by rw [decide_eq_true (c0.mp q2), b2i_n0.mp q]; rfl)
  · exact h.elim
theorem shX5_isLoop : ∀ As f a Q, sX5_isLoop As f a Q → ∃ i r, As = .inr (.inr (5, i, 0)) :: r := by
  intro As f a Q h
  unfold sX5_isLoop at h
  split at h
  · exact ⟨_, _, rfl⟩
  · exact h.elim
theorem mX5_isLoop {g : Gm} (hg : GmOK g) : MetC g yX5_isLoop cX5_isLoop 2 (some .boolean) 4 sX5_isLoop := by
  refine MetC_of hg eX5_isLoop (eokX5_isLoop hg) (by decide +kernel) (fun av f a post h => ?_) rX5_isLoop
  unfold sX5_isLoop at h
  split at h
  · exact Nat.le_of_ble_eq_true rfl
  · exact h.elim
def sX5_allEnd : SP := fun As f a Q => match As with
  | [.inr (.inr (5, 0, 0))] => ∃ P om, RM (a 5 0 0) P ∧ WF P ∧ f 5 0 20 = fM om ∧ (∀ c, om = some c → c < 12) ∧ ∀ f' a', FG f a f' a' → Q (some (.inl (b2i (decide (loopC (cloM P om) = 0))))) f' a'
  | _ => False
def eX5_allEnd : En := (tX5_allEnd, [(192, false, 1, sX5_findGraphs), (189, false, 2, sX5_isLoop)], fdX5, [], 1)
theorem eokX5_allEnd {g : Gm} (hg : GmOK g) : EnvOK g 5 RX5 cX5_allEnd (some .boolean) eX5_allEnd := ⟨okX5_allEnd, fun _ _ _ _ h => as2_all (P := fun i v => CallOK g 5 RX5 i v.1 v.2.1 v.2.2) (l := eX5_allEnd.2.1) ⟨callV_ok (t := 5) hg (mX5_findGraphs hg) kX5_findGraphs mlX5_192 qX5_findGraphs.1 qX5_findGraphs.2 ⟨by decide, by decide⟩ ⟨_, _, rfl⟩ shX5_findGraphs, callV_ok (t := 5) hg (mX5_isLoop hg) kX5_isLoop mlX5_189 qX5_isLoop.1 qX5_isLoop.2 ⟨by decide, by decide⟩ ⟨_, _, rfl⟩ shX5_isLoop, trivial⟩ h, fdX5_ok, (fun _ _ h => by cases h), rfl⟩
theorem cloM_ok {P : Pg} (hW : WF P) (om : Option Nat) : WL (cloM P om) := (out_ok (okK_P hW) 730 _ 0 (ph1_ok (okK_P hW) _ (Nat.le_refl _))).1
theorem rX5_allEnd (av : List AV) (f : FF) (a : AA) (post : PT) (h : sX5_allEnd av f a post) (X : XT) (hX : Clo eX5_allEnd post X) : X 0 (padL 2 (ent av)) [] f a := by
  unfold sX5_allEnd at h
  split at h
  · obtain ⟨P, om, hR, hW, eo, ho, h⟩ := h
    refine hX [6] 60 _ _ _ _ _ ?_
    refine ⟨P, om, hR, hW, eo, ho, fun f1 a1 hF hG => ?_⟩
    have hL := cloM_ok hW om
    have h729 := WL_len hL
    have h := h f1 a1 hF
    refine forUp (n := (cloM P om).length) (Pr := fun g => cnt (fun g => loopE (ge (cloM P om) g)) g = 0 → X 6 [some (.inr (.inr (5, 0, 0))), some (.inl (nI g))] [] f1 a1) ?_ ?_ 0 (Nat.zero_le _) rfl
    · intro g hg ih hc
      refine hX [6] 60 _ _ _ _ _ ?_
      refine ⟨fun q => absurd ((i_le hG.1 rfl (by omega) (by omega)).mp q) (by omega), fun _ => ?_⟩
      refine ⟨cloM P om, g, ⟨hG, hL, rfl, hg⟩, ⟨fun q => ?_, fun q => ?_⟩⟩
      · have := ih (by unfold cnt; rw [hc, b2i_e0.mp q]; rfl)
        rw [← nI_1] at this
        exact this
      · refine pF h (decide_eq_false (fun z => ?_))
        have z := cnt_zero.mp z g hg
        rw [b2i_n0.mp q] at z
        exact absurd z (by decide)
    · intro hc
      refine hX [] 60 _ _ _ _ _ ?_
      exact ⟨fun _ => pT h (decide_eq_true hc), fun q => absurd ((i_le hG.1 rfl (by omega) (by omega)).mpr (Nat.le_refl _)) q⟩
  · exact h.elim
theorem shX5_allEnd : ∀ As f a Q, sX5_allEnd As f a Q → ∃ i r, As = .inr (.inr (5, i, 0)) :: r := by
  intro As f a Q h
  unfold sX5_allEnd at h
  split at h
  · exact ⟨_, _, rfl⟩
  · exact h.elim
theorem mX5_allEnd {g : Gm} (hg : GmOK g) : MetC g yX5_allEnd cX5_allEnd 2 (some .boolean) 5 sX5_allEnd := by
  refine MetC_of hg eX5_allEnd (eokX5_allEnd hg) (by decide +kernel) (fun av f a post h => ?_) rX5_allEnd
  unfold sX5_allEnd at h
  split at h
  · exact Nat.le_of_ble_eq_true rfl
  · exact h.elim
def sX5_isNoneAbove : SP := fun As f a Q => match As with
  | [.inl x, .inl y] => ∃ c d, x = nI c ∧ y = nI d ∧ c < 81 ∧ d < 81 ∧ Q (some (.inl (b2i (leC c d)))) f a
  | _ => False
def eX5_isNoneAbove : En := (tX5_isNoneAbove, [(152, true, 3, sX5_relation)], fdX5, [], 1)
theorem eokX5_isNoneAbove {g : Gm} (hg : GmOK g) : EnvOK g 2 RX5 cX5_isNoneAbove (some .boolean) eX5_isNoneAbove := ⟨okX5_isNoneAbove, fun _ _ _ _ h => as2_all (P := fun i v => CallOK g 2 RX5 i v.1 v.2.1 v.2.2) (l := eX5_isNoneAbove.2.1) ⟨callS_ok hg (mX5_relation hg) kX5_relation mlX5_152 qX5_relation ⟨by decide, by decide⟩, trivial⟩ h, fdX5_ok, (fun _ _ h => by cases h), rfl⟩
theorem rX5_isNoneAbove (av : List AV) (f : FF) (a : AA) (post : PT) (h : sX5_isNoneAbove av f a post) (X : XT) (hX : Clo eX5_isNoneAbove post X) : X 0 (padL 5 (ent av)) [] f a := by
  unfold sX5_isNoneAbove at h
  split at h
  · obtain ⟨c, d, rfl, rfl, hc, hd, h⟩ := h
    have st : ∀ i k b, i < 2 → k < 2 → X 12 [some (.inl (nI c)), some (.inl (nI d)), some (.inl (b2i (b && decide (rl c i k ≤ rl d i k)))), some (.inl (nI i)), some (.inl (nI (k + 1)))] [] f a → X 12 [some (.inl (nI c)), some (.inl (nI d)), some (.inl (b2i b)), some (.inl (nI i)), some (.inl (nI k))] [] f a := by
      intro i k b hi hk K
      have l0 := rl_lt c i k
      have l1 := rl_lt d i k
      rw [← nI_1] at K
      have cl_ : nI (rl d i k) < nI (rl c i k) ↔ rl d i k < rl c i k := nI_ltI (by omega) (by omega)
      refine hX [12, 43] 60 _ _ _ _ _ ?_
      have h43 : (b && decide (rl c i k ≤ rl d i k)) = false → X 43 [some (.inl (nI c)), some (.inl (nI d)), some (.inl (b2i b)), some (.inl (nI i)), some (.inl (nI k))] [] f a := fun z => by
        rw [z] at K
        exact hX [12] 20 _ _ _ _ _ K
      refine ⟨fun q => absurd ((i_le (show (2 : Int32) = nI 2 from rfl) rfl (by decide) (by omega)).mp q) (by omega), fun _ => ⟨fun q => h43 (by rw [b2i_e0.mp q, Bool.false_and]), fun q => ?_⟩⟩
      refine ⟨c, i, k, rfl, rfl, rfl, hc, hi, hk, d, i, k, rfl, rfl, rfl, hd, hi, hk, ⟨fun q2 => h43 ?_, fun q2 => ?_⟩⟩
      · have q2 := cl_.mp q2
        rw [decide_eq_false (by omega), Bool.and_false]
      · have q2 : ¬ rl d i k < rl c i k := fun z => q2 (cl_.mpr z)
        rw [b2i_n0.mp q, decide_eq_true (by omega)] at K
        exact K
    have row : ∀ i b, i < 2 → (∀ z, X 4 [some (.inl (nI c)), some (.inl (nI d)), some (.inl (b2i (b && decide (rl c i 0 ≤ rl d i 0) && decide (rl c i 1 ≤ rl d i 1)))), some (.inl (nI (i + 1))), z] [] f a) → ∀ z, X 4 [some (.inl (nI c)), some (.inl (nI d)), some (.inl (b2i b)), some (.inl (nI i)), z] [] f a := by
      intro i b hi K z
      refine hX [12] 40 _ _ _ _ _ ?_
      refine ⟨fun q => absurd ((i_le (show (2 : Int32) = nI 2 from rfl) rfl (by decide) (by omega)).mp q) (by omega), fun _ => ?_⟩
      refine st i 0 b hi (by decide) (st i 1 _ hi (by decide) ?_)
      refine hX [4] 40 _ _ _ _ _ ?_
      refine ⟨fun _ => ?_, fun q => absurd (by decide) q⟩
      have K := K (some (.inl (nI 2)))
      rw [← nI_1] at K
      exact K
    refine hX [4] 20 _ _ _ _ _ ?_
    refine row 0 true (by decide) (fun z => row 1 _ (by decide) (fun z => ?_) z) none
    refine hX [] 40 _ _ _ _ _ ?_
    refine ⟨fun _ => pB h ?_, fun q => absurd (by decide) q⟩
    unfold leC
    simp only [Bool.true_and, Bool.and_assoc]
  · exact h.elim
theorem mX5_isNoneAbove {g : Gm} (hg : GmOK g) : MetC g yX5_isNoneAbove cX5_isNoneAbove 5 (some .boolean) 2 sX5_isNoneAbove := by
  refine MetC_of hg eX5_isNoneAbove (eokX5_isNoneAbove hg) (by decide +kernel) (fun av f a post h => ?_) rX5_isNoneAbove
  unfold sX5_isNoneAbove at h
  split at h
  · exact Nat.le_of_ble_eq_true rfl
  · exact h.elim
