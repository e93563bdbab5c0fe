/-! needless graphs; counts of graphs -/
def sX5_isNeedless : SP := fun As f a Q => match As with
  | [.inr (.inr (5, 0, 0)), .inl x] => ∃ L g, GMg f a L x g ∧ Q (some (.inl (b2i (needB L g)))) f a
  | _ => False
def eX5_isNeedless : En := (tX5_isNeedless, [(182, true, 2, sX5_isNoneAbove)], fdX5, [], 1)
theorem eokX5_isNeedless {g : Gm} (hg : GmOK g) : EnvOK g 3 RX5 cX5_isNeedless (some .boolean) eX5_isNeedless := ⟨okX5_isNeedless, fun _ _ _ _ h => as2_all (P := fun i v => CallOK g 3 RX5 i v.1 v.2.1 v.2.2) (l := eX5_isNeedless.2.1) ⟨callS_ok hg (mX5_isNoneAbove hg) kX5_isNoneAbove mlX5_182 qX5_isNoneAbove ⟨by decide, by decide⟩, trivial⟩ h, fdX5_ok, (fun _ _ h => by cases h), rfl⟩
def nbP (L : List Gr) (g h : Nat) : Bool := decide (h ≠ g) && (decide ((ge L h).1 = (ge L g).1) && (decide ((ge L h).2.1 = (ge L g).2.1) && leC (ge L h).2.2.1 (ge L g).2.2.1))
theorem rX5_isNeedless (av : List AV) (f : FF) (a : AA) (post : PT) (h : sX5_isNeedless av f a post) (X : XT) (hX : Clo eX5_isNeedless post X) : X 0 (padL 4 (ent av)) [] f a := by
  unfold sX5_isNeedless at h
  split at h
  · rename_i x
    obtain ⟨L, g, hg, h⟩ := h
    have h : post (some (.inl (b2i (anyK (nbP L g) L.length)))) f a := h
    have h729 := WL_len hg.2.1
    have e := hg.e
    obtain ⟨o1, o2, o3, -⟩ := hg.2.1.1 g hg.2.2.2
    refine hX [4] 20 _ _ _ _ _ ?_
    refine forUp (n := L.length) (Pr := fun j => X 4 [some (.inr (.inr (5, 0, 0))), some (.inl x), some (.inl (b2i (anyK (nbP L g) j))), some (.inl (nI j))] [] f a) ?_ ?_ 0 (Nat.zero_le _)
    · intro j hj K
      rw [← nI_1, show anyK (nbP L g) (j + 1) = (anyK (nbP L g) j || nbP L g j) from rfl] at K
      have hgj : GMg f a L (nI j) j := ⟨hg.1, hg.2.1, rfl, hj⟩
      have ej := hgj.e
      obtain ⟨p1, p2, p3, -⟩ := hg.2.1.1 j hj
      have c1 : a 5 0 12 (nI j).toNatClampNeg = a 5 0 12 x.toNatClampNeg ↔ (ge L j).1 = (ge L g).1 := i_eq ej.1 e.1 (by omega) (by omega)
      have c2 : a 5 0 13 (nI j).toNatClampNeg = a 5 0 13 x.toNatClampNeg ↔ (ge L j).2.1 = (ge L g).2.1 := i_eq ej.2.1 e.2.1 (by omega) (by omega)
      have c0 : nI j = x ↔ j = g := i_eq rfl hg.2.2.1 (by omega) (by have := hg.2.2.2; omega)
      have h69 : (anyK (nbP L g) j || nbP L g j) = true → X 69 [some (.inr (.inr (5, 0, 0))), some (.inl x), some (.inl (b2i (anyK (nbP L g) j))), some (.inl (nI j))] [] f a := fun z => by
        rw [z] at K
        exact hX [4] 20 _ _ _ _ _ K
      have h73 : (anyK (nbP L g) j || nbP L g j) = false → X 73 [some (.inr (.inr (5, 0, 0))), some (.inl x), some (.inl (b2i (anyK (nbP L g) j))), some (.inl (nI j))] [] f a := fun z => by
        rw [z] at K
        exact hX [4] 20 _ _ _ _ _ K
      refine hX [69, 73] 60 _ _ _ _ _ ?_
      refine ⟨fun q => absurd ((i_le hg.1.1 rfl (by omega) (by omega)).mp q) (by omega), fun _ => ⟨fun q => h69 (by rw [b2i_n0.mp q, Bool.true_or]), fun q => ?_⟩⟩
      have q : anyK (nbP L g) j = false := b2i_e0.mp (by first | exact q | exact Decidable.not_not.mp q)
      rw [q, Bool.false_or] at h69 h73
      rw [q]
      unfold nbP at h69 h73
      refine ⟨fun q0 => h73 (by rw [decide_eq_false (fun z => z (c0.mp q0)), Bool.false_and]), fun q0 => ?_⟩
      rw [decide_eq_true (show j ≠ g from fun z => q0 (c0.mpr z)), Bool.true_and] at h69 h73
      refine ⟨hgj.i rfl, hg.i rfl, ⟨fun q1 => h73 (by rw [decide_eq_false (fun z => q1 (c1.mpr z)), Bool.false_and]), fun q1 => ?_⟩⟩
      rw [decide_eq_true (c1.mp q1), Bool.true_and] at h69 h73
      refine ⟨hgj.i rfl, hg.i rfl, ⟨fun q2 => h73 (by rw [decide_eq_false (fun z => q2 (c2.mpr z)), Bool.false_and]), fun q2 => ?_⟩⟩
      rw [decide_eq_true (c2.mp q2), Bool.true_and] at h69 h73
      refine ⟨hgj.i rfl, hg.i rfl, _, _, ej.2.2.1, e.2.2.1, p3, o3, ⟨fun q3 => h73 (b2i_e0.mp q3), fun q3 => h69 (b2i_n0.mp q3)⟩⟩
    · refine hX [] 40 _ _ _ _ _ ?_
      exact ⟨fun _ => pB h rfl, fun q => absurd ((i_le hg.1.1 rfl (by omega) (by omega)).mpr (Nat.le_refl _)) q⟩
  · exact h.elim
theorem shX5_isNeedless : ∀ As f a Q, sX5_isNeedless As f a Q → ∃ i r, As = .inr (.inr (5, i, 0)) :: r := by
  intro As f a Q h
  unfold sX5_isNeedless at h
  split at h
  · exact ⟨_, _, rfl⟩
  · exact h.elim
theorem mX5_isNeedless {g : Gm} (hg : GmOK g) : MetC g yX5_isNeedless cX5_isNeedless 4 (some .boolean) 3 sX5_isNeedless := by
  refine MetC_of hg eX5_isNeedless (eokX5_isNeedless hg) (by decide +kernel) (fun av f a post h => ?_) rX5_isNeedless
  unfold sX5_isNeedless at h
  split at h
  · exact Nat.le_of_ble_eq_true rfl
  · exact h.elim
def gtB (L : List Gr) (w : Nat) (g : Nat) : Bool := if w = 0 then idleK (ge L g).1 (ge L g).2.1 (ge L g).2.2.1 else if w = 1 then loopE (ge L g) else if w = 2 then !needB L g else loopE (ge L g) && !needB L g
def sX5_graphsThat : SP := fun As f a Q => match As with
  | [.inr (.inr (5, 0, 0)), .inl x] => ∃ P om w, x = nI w ∧ w < 4 ∧ RM (a 5 0 0) P ∧ WF P ∧ f 5 0 20 = fM om ∧ (∀ c, om = some c → c < 12) ∧ ∀ f' a', FG f a f' a' → Q (some (.inl (nI (cnt (gtB (cloM P om) w) (cloM P om).length)))) f' a'
  | _ => False
def eX5_graphsThat : En := (tX5_graphsThat, [(192, false, 1, sX5_findGraphs), (175, false, 2, sX5_isIdle), (189, false, 2, sX5_isLoop), (198, false, 2, sX5_isNeedless), (171, true, 1, sX5_flag)], fdX5, [], 0)
theorem eokX5_graphsThat {g : Gm} (hg : GmOK g) : EnvOK g 5 RX5 cX5_graphsThat (some .int) eX5_graphsThat := ⟨okX5_graphsThat, fun _ _ _ _ h => as2_all (P := fun i v => CallOK g 5 RX5 i v.1 v.2.1 v.2.2) (l := eX5_graphsThat.2.1) ⟨callV_ok (t := 5) hg (mX5_findGraphs hg) kX5_findGraphs mlX5_192 qX5_findGraphs.1 qX5_findGraphs.2 ⟨by decide, by decide⟩ ⟨_, _, rfl⟩ shX5_findGraphs, callV_ok (t := 5) hg (mX5_isIdle hg) kX5_isIdle mlX5_175 qX5_isIdle.1 qX5_isIdle.2 ⟨by decide, by decide⟩ ⟨_, _, rfl⟩ shX5_isIdle, callV_ok (t := 5) hg (mX5_isLoop hg) kX5_isLoop mlX5_189 qX5_isLoop.1 qX5_isLoop.2 ⟨by decide, by decide⟩ ⟨_, _, rfl⟩ shX5_isLoop, callV_ok (t := 5) hg (mX5_isNeedless hg) kX5_isNeedless mlX5_198 qX5_isNeedless.1 qX5_isNeedless.2 ⟨by decide, by decide⟩ ⟨_, _, rfl⟩ shX5_isNeedless, callS_ok hg (mX5_flag hg) kX5_flag mlX5_171 qX5_flag ⟨by decide, by decide⟩, trivial⟩ h, fdX5_ok, (fun _ _ h => by cases h), rfl⟩
theorem rX5_graphsThat (av : List AV) (f : FF) (a : AA) (post : PT) (h : sX5_graphsThat av f a post) (X : XT) (hX : Clo eX5_graphsThat post X) : X 0 (padL 4 (ent av)) [] f a := by
  unfold sX5_graphsThat at h
  split at h
  · obtain ⟨P, om, w, rfl, hw, hR, hW, eo, ho, h⟩ := h
    refine hX [8] 60 _ _ _ _ _ ?_
    refine ⟨P, om, hR, hW, eo, ho, fun f1 a1 hF hG => ?_⟩
    have hL := cloM_ok hW om
    obtain ⟨L, eL⟩ : ∃ L, L = cloM P om := ⟨_, rfl⟩
    rw [← eL] at hL hG h
    have h729 := WL_len hL
    have h := h f1 a1 hF
    have cw : ∀ j, j < 4 → (nI w = nI j ↔ w = j) := fun j hj => nI_eq (by omega) (by omega)
    refine forUp (n := L.length) (Pr := fun g => X 8 [some (.inr (.inr (5, 0, 0))), some (.inl (nI w)), some (.inl (nI (cnt (gtB L w) g))), some (.inl (nI g))] [] f1 a1) ?_ ?_ 0 (Nat.zero_le _)
    · intro g hg ih
      rw [cnt_s, ← nI_1] at ih
      have hgg : GMg f1 a1 L (nI g) g := ⟨hG, hL, rfl, hg⟩
      have h84 : ∀ b, b = gtB L w g → X 84 [some (.inr (.inr (5, 0, 0))), some (.inl (nI w)), some (.inl (nI (cnt (gtB L w) g))), some (.inl (nI g))] [.inl (b2i b), .inl (nI (cnt (gtB L w) g))] f1 a1 := fun b eb => by
        refine hX [8] 20 _ _ _ _ _ ?_
        rw [← eb, ← b2i_b] at ih
        exact ih
      have gE : gtB L w g = (if w = 0 then idleK (ge L g).1 (ge L g).2.1 (ge L g).2.2.1 else if w = 1 then loopE (ge L g) else if w = 2 then !needB L g else loopE (ge L g) && !needB L g) := rfl
      refine hX [84] 60 _ _ _ _ _ ?_
      refine ⟨fun q => absurd ((i_le hG.1 rfl (by omega) (by omega)).mp q) (by omega), fun _ => ⟨fun q0 => ?_, fun q0 => ?_⟩⟩
      · have q0 : ¬ w = 0 := fun z => q0 ((cw 0 (by decide)).mpr z)
        rw [if_neg q0] at gE
        refine ⟨fun q1 => ?_, fun q1 => ?_⟩
        · have q1 : ¬ w = 1 := fun z => q1 ((cw 1 (by decide)).mpr z)
          rw [if_neg q1] at gE
          refine ⟨fun q2 => ?_, fun q2 => ?_⟩
          · have q2 : ¬ w = 2 := fun z => q2 ((cw 2 (by decide)).mpr z)
            rw [if_neg q2] at gE
            refine ⟨L, g, hgg, ⟨fun p => h84 false (by rw [gE, b2i_e0.mp p, Bool.false_and]), fun p => ⟨L, g, hgg, ⟨fun p2 => h84 false (by rw [gE, b2i_n0.mp p2]; simp), fun p2 => ?_⟩⟩⟩⟩
            have p2 : b2i (needB L g) = 0 := by first | exact p2 | exact Decidable.not_not.mp p2
            exact h84 true (by rw [gE, b2i_n0.mp p, b2i_e0.mp p2]; rfl)
          · have q2 : w = 2 := (cw 2 (by decide)).mp q2
            rw [if_pos q2] at gE
            refine ⟨L, g, hgg, ⟨fun p => h84 false (by rw [gE, b2i_n0.mp p]; rfl), fun p => ?_⟩⟩
            have p : b2i (needB L g) = 0 := by first | exact p | exact Decidable.not_not.mp p
            exact h84 true (by rw [gE, b2i_e0.mp p]; rfl)
        · have q1 : w = 1 := (cw 1 (by decide)).mp q1
          rw [if_pos q1] at gE
          exact ⟨L, g, hgg, h84 _ gE.symm⟩
      · have q0 : w = 0 := (cw 0 (by decide)).mp (by first | exact q0 | exact Decidable.not_not.mp q0)
        rw [if_pos q0] at gE
        exact ⟨L, g, hgg, h84 _ gE.symm⟩
    · refine hX [] 40 _ _ _ _ _ ?_
      exact ⟨fun _ => h, fun q => absurd ((i_le hG.1 rfl (by omega) (by omega)).mpr (Nat.le_refl _)) q⟩
  · exact h.elim
theorem shX5_graphsThat : ∀ As f a Q, sX5_graphsThat As f a Q → ∃ i r, As = .inr (.inr (5, i, 0)) :: r := by
  intro As f a Q h
  unfold sX5_graphsThat at h
  split at h
  · exact ⟨_, _, rfl⟩
  · exact h.elim
theorem mX5_graphsThat {g : Gm} (hg : GmOK g) : MetC g yX5_graphsThat cX5_graphsThat 4 (some .int) 5 sX5_graphsThat := by
  refine MetC_of hg eX5_graphsThat (eokX5_graphsThat hg) (by decide +kernel) (fun av f a post h => ?_) rX5_graphsThat
  unfold sX5_graphsThat at h
  split at h
  · exact Nat.le_of_ble_eq_true rfl
  · exact h.elim
