/-! calls of a function, its first loop, components -/
def sX5_callsFrom : SP := fun As f a Q => match As with
  | [.inr (.inr (5, 0, 0)), .inl x] => ∃ P i, RM (a 5 0 0) P ∧ WF P ∧ x = nI i ∧ i < 3 ∧ Q (some (.inl (nI (cnt (fun c => decide (fr P c = i)) P.2.length)))) f a
  | _ => False
def eX5_callsFrom : En := (tX5_callsFrom, [(139, false, 3, sX5_of), (171, true, 1, sX5_flag)], fdX5, [], 0)
theorem eokX5_callsFrom {g : Gm} (hg : GmOK g) : EnvOK g 1 RX5 cX5_callsFrom (some .int) eX5_callsFrom := ⟨okX5_callsFrom, fun _ _ _ _ h => as2_all (P := fun i v => CallOK g 1 RX5 i v.1 v.2.1 v.2.2) (l := eX5_callsFrom.2.1) ⟨callV_ok (t := 5) hg (mX5_of hg) kX5_of mlX5_139 qX5_of.1 qX5_of.2 ⟨by decide, by decide⟩ ⟨_, _, rfl⟩ shX5_of, callS_ok hg (mX5_flag hg) kX5_flag mlX5_171 qX5_flag ⟨by decide, by decide⟩, trivial⟩ h, fdX5_ok, (fun _ _ h => by cases h), rfl⟩
theorem rX5_callsFrom (av : List AV) (f : FF) (a : AA) (post : PT) (h : sX5_callsFrom av f a post) (X : XT) (hX : Clo eX5_callsFrom post X) : X 0 (padL 4 (ent av)) [] f a := by
  unfold sX5_callsFrom at h
  split at h
  · obtain ⟨P, i, hR, hW, rfl, hi, h⟩ := h
    have n12 := hW.2.1
    refine hX [4] 20 _ _ _ _ _ ?_
    refine forUp (n := P.2.length) (Pr := fun c => X 4 [some (.inr (.inr (5, 0, 0))), some (.inl (nI i)), some (.inl (nI (cnt (fun c => decide (fr P c = i)) c))), some (.inl (nI c))] [] f a) ?_ ?_ 0 (Nat.zero_le _)
    · intro c hc ih
      obtain ⟨r0, -⟩ := hR.2.2.2 c hc
      have kf_ : fr P c < 3 := ((okK_P hW).2 c hc).1
      have es : a 5 0 0 (4 + 8 * c + 0) = nI i ↔ fr P c = i := i_eq r0 rfl (by omega) (by omega)
      rw [cnt_s, ← nI_1] at ih
      refine hX [4] 60 _ _ _ _ _ ?_
      refine ⟨inA 101 (n := 100) rfl rfl (by decide) (by decide), ⟨fun q => absurd ((i_le hR.2.1 rfl (by omega) (by omega)).mp q) (by omega), fun _ => ?_⟩⟩
      refine ⟨c, 0, rfl, rfl, by omega, ⟨fun q => ?_, fun q => ?_⟩⟩
      · rw [decide_eq_false (fun z => q (es.mpr z))] at ih
        exact ih
      · rw [decide_eq_true (es.mp q)] at ih
        exact ih
    · refine hX [] 40 _ _ _ _ _ ?_
      exact ⟨inA 101 (n := 100) rfl rfl (by decide) (by decide), ⟨fun _ => h, fun q => absurd ((i_le hR.2.1 rfl (by omega) (by omega)).mpr (Nat.le_refl _)) q⟩⟩
  · exact h.elim
theorem shX5_callsFrom : ∀ As f a Q, sX5_callsFrom As f a Q → ∃ i r, As = .inr (.inr (5, i, 0)) :: r := by
  intro As f a Q h
  unfold sX5_callsFrom at h
  split at h
  · exact ⟨_, _, rfl⟩
  · exact h.elim
theorem mX5_callsFrom {g : Gm} (hg : GmOK g) : MetC g yX5_callsFrom cX5_callsFrom 4 (some .int) 1 sX5_callsFrom := by
  refine MetC_of hg eX5_callsFrom (eokX5_callsFrom hg) (by decide +kernel) (fun av f a post h => ?_) rX5_callsFrom
  unfold sX5_callsFrom at h
  split at h
  · exact Nat.le_of_ble_eq_true rfl
  · exact h.elim
def loM (P : Pg) (L : List Gr) (i g : Nat) : Bool := (rcN P i ||| 2 ^ i).testBit (ge L g).1 && loopE (ge L g)
def sX5_loopOf : SP := fun As f a Q => match As with
  | [.inr (.inr (5, 0, 0)), .inl x] => ∃ P L i, RM (a 5 0 0) P ∧ WF P ∧ f 5 0 20 = -4 ∧ GM (f 5 0) (a 5 0) L ∧ WL L ∧ x = nI i ∧ i < 3 ∧ Q (some (.inl (fM (firstU (loM P L i) L.length 0)))) f a
  | _ => False
def eX5_loopOf : En := (tX5_loopOf, [(186, false, 2, sX5_reachOf), (189, false, 2, sX5_isLoop)], fdX5, [], 0)
theorem eokX5_loopOf {g : Gm} (hg : GmOK g) : EnvOK g 5 RX5 cX5_loopOf (some .int) eX5_loopOf := ⟨okX5_loopOf, fun _ _ _ _ h => as2_all (P := fun i v => CallOK g 5 RX5 i v.1 v.2.1 v.2.2) (l := eX5_loopOf.2.1) ⟨callV_ok (t := 5) hg (mX5_reachOf hg) kX5_reachOf mlX5_186 qX5_reachOf.1 qX5_reachOf.2 ⟨by decide, by decide⟩ ⟨_, _, rfl⟩ shX5_reachOf, callV_ok (t := 5) hg (mX5_isLoop hg) kX5_isLoop mlX5_189 qX5_isLoop.1 qX5_isLoop.2 ⟨by decide, by decide⟩ ⟨_, _, rfl⟩ shX5_isLoop, trivial⟩ h, fdX5_ok, (fun _ _ h => by cases h), rfl⟩
theorem rX5_loopOf (av : List AV) (f : FF) (a : AA) (post : PT) (h : sX5_loopOf av f a post) (X : XT) (hX : Clo eX5_loopOf post X) : X 0 (padL 4 (ent av)) [] f a := by
  unfold sX5_loopOf at h
  split at h
  · obtain ⟨P, L, i, hR, hW, eo, hG, hL, rfl, hi, h⟩ := h
    have h729 := WL_len hL
    have h8 : rcN P i ||| 2 ^ i < 8 := or8 (rcQ_lt hW i 3) (p8 hi)
    refine hX [12] 40 _ _ _ _ _ ?_
    refine ⟨P, i, hR, hW, eo, rfl, hi, ?_⟩
    have e0 : nI (rcN P i) ||| ((1 : Int32) <<< (nI i &&& 31)) = nI (rcN P i ||| 2 ^ i) := by rw [shl_t i (by omega), fa_or]
    obtain ⟨R0, eR⟩ : ∃ R0, R0 = firstU (loM P L i) L.length 0 := ⟨_, rfl⟩
    rw [← eR] at h
    have key : ∀ d g, g + d = L.length → R0 = firstU (loM P L i) d g → X 12 [some (.inr (.inr (5, 0, 0))), some (.inl (nI i)), some (.inl (nI (rcN P i ||| 2 ^ i))), some (.inl (nI g))] [] f a := by
      intro d
      induction d with
      | zero =>
        intro g hg e
        refine hX [] 40 _ _ _ _ _ ?_
        refine ⟨fun _ => ?_, fun q => absurd ((i_le hG.1 rfl (by omega) (by omega)).mpr (by omega)) q⟩
        rw [e] at h
        exact h
      | succ d ih =>
        intro g hg e
        have hgl : g < L.length := by omega
        have hgg : GMg f a L (nI g) g := ⟨hG, hL, rfl, hgl⟩
        obtain ⟨o1, -⟩ := hL.1 g hgl
        unfold firstU at e
        have es : (nI (rcN P i ||| 2 ^ i) >>> (a 5 0 12 (nI g).toNatClampNeg &&& 31)) &&& 1 = 1 ↔ (rcN P i ||| 2 ^ i).testBit (ge L g).1 = true := by
          rw [hgg.e.1]
          exact sh1 _ h8 _ o1
        have n44 : loM P L i g = false → X 44 [some (.inr (.inr (5, 0, 0))), some (.inl (nI i)), some (.inl (nI (rcN P i ||| 2 ^ i))), some (.inl (nI g))] [] f a := fun z => by
          refine hX [12] 20 _ _ _ _ _ ?_
          have := ih (g + 1) (by omega) (by rw [e, z]; rfl)
          rw [← nI_1] at this
          exact this
        refine hX [44] 60 _ _ _ _ _ ?_
        refine ⟨fun q => absurd ((i_le hG.1 rfl (by omega) (by omega)).mp q) (by omega), fun _ => ?_⟩
        refine ⟨hgg.i rfl, ⟨fun q => n44 ?_, fun q => ⟨L, g, hgg, ⟨fun q2 => n44 ?_, fun q2 => ?_⟩⟩⟩⟩
        · unfold loM
          rw [Bool.eq_false_iff.mpr (fun z => q (es.mpr z)), Bool.false_and]
        · unfold loM
          rw [b2i_e0.mp q2, Bool.and_false]
        · have z : loM P L i g = true := by
            unfold loM
            rw [es.mp q, b2i_n0.mp q2]
            rfl
          rw [if_pos z] at e
          rw [e] at h
          exact h
    have K := key L.length 0 (by omega) eR
    rw [← e0] at K
    exact K
  · exact h.elim
theorem shX5_loopOf : ∀ As f a Q, sX5_loopOf As f a Q → ∃ i r, As = .inr (.inr (5, i, 0)) :: r := by
  intro As f a Q h
  unfold sX5_loopOf at h
  split at h
  · exact ⟨_, _, rfl⟩
  · exact h.elim
theorem mX5_loopOf {g : Gm} (hg : GmOK g) : MetC g yX5_loopOf cX5_loopOf 4 (some .int) 5 sX5_loopOf := by
  refine MetC_of hg eX5_loopOf (eokX5_loopOf hg) (by decide +kernel) (fun av f a post h => ?_) rX5_loopOf
  unfold sX5_loopOf at h
  split at h
  · exact Nat.le_of_ble_eq_true rfl
  · exact h.elim
def tgM (P : Pg) (i j : Nat) : Bool := (rcN P i).testBit j && (rcN P j).testBit i
/-- the lowest below n that is together with i -/
def cpM (P : Pg) (i : Nat) : Nat → Nat → Nat
  | 0, b => b
  | n + 1, b => cpM P i n (if tgM P i n then n else b)
def sX5_componentOf : SP := fun As f a Q => match As with
  | [.inr (.inr (5, 0, 0)), .inl x] => ∃ P i, RM (a 5 0 0) P ∧ WF P ∧ f 5 0 20 = -4 ∧ x = nI i ∧ i < 3 ∧ Q (some (.inl (nI (cpM P i i i)))) f a
  | _ => False
def eX5_componentOf : En := (tX5_componentOf, [(186, false, 2, sX5_reachOf)], fdX5, [], 0)
theorem eokX5_componentOf {g : Gm} (hg : GmOK g) : EnvOK g 2 RX5 cX5_componentOf (some .int) eX5_componentOf := ⟨okX5_componentOf, fun _ _ _ _ h => as2_all (P := fun i v => CallOK g 2 RX5 i v.1 v.2.1 v.2.2) (l := eX5_componentOf.2.1) ⟨callV_ok (t := 5) hg (mX5_reachOf hg) kX5_reachOf mlX5_186 qX5_reachOf.1 qX5_reachOf.2 ⟨by decide, by decide⟩ ⟨_, _, rfl⟩ shX5_reachOf, trivial⟩ h, fdX5_ok, (fun _ _ h => by cases h), rfl⟩
theorem rX5_componentOf (av : List AV) (f : FF) (a : AA) (post : PT) (h : sX5_componentOf av f a post) (X : XT) (hX : Clo eX5_componentOf post X) : X 0 (padL 4 (ent av)) [] f a := by
  unfold sX5_componentOf at h
  split at h
  · obtain ⟨P, i, hR, hW, eo, rfl, hi, h⟩ := h
    have key : ∀ n b, n ≤ i → cpM P i i i = cpM P i n b → X 6 [some (.inr (.inr (5, 0, 0))), some (.inl (nI i)), some (.inl (nI b)), some (.inl (nI n - 1))] [] f a := by
      intro n
      induction n with
      | zero =>
        intro b hn e
        refine hX [] 40 _ _ _ _ _ ?_
        refine ⟨fun _ => ?_, fun q => absurd (by decide) q⟩
        rw [e] at h
        exact h
      | succ n ih =>
        intro b hn e
        rw [nI_pred]
        have e1 : (nI (rcN P i) >>> (nI n &&& 31)) &&& 1 = 1 ↔ (rcN P i).testBit n = true := sh1 _ (rcQ_lt hW i 3) n (by omega)
        have e2 : (nI (rcN P n) >>> (nI i &&& 31)) &&& 1 = 1 ↔ (rcN P n).testBit i = true := sh1 _ (rcQ_lt hW n 3) i hi
        have go : ∀ v, v = (if tgM P i n then n else b) → X 41 [some (.inr (.inr (5, 0, 0))), some (.inl (nI i)), some (.inl (nI b)), some (.inl (nI n))] [.inl (nI v)] f a := fun v ev => by
          refine hX [6] 20 _ _ _ _ _ ?_
          have K := ih v (by omega) (by rw [e, ev]; rfl)
          rw [Int32.sub_eq_add_neg] at K
          exact K
        have n40 : tgM P i n = false → X 40 [some (.inr (.inr (5, 0, 0))), some (.inl (nI i)), some (.inl (nI b)), some (.inl (nI n))] [] f a := fun z => hX [41] 20 _ _ _ _ _ (go b (by rw [z]; rfl))
        refine hX [40, 41] 60 _ _ _ _ _ ?_
        refine ⟨fun q => absurd q (nI_pos (by omega)), fun _ => ?_⟩
        refine ⟨P, i, hR, hW, eo, rfl, hi, ⟨fun q => n40 ?_, fun q => ⟨P, n, hR, hW, eo, rfl, by omega, ⟨fun q2 => n40 ?_, fun q2 => go n ?_⟩⟩⟩⟩
        · unfold tgM
          rw [Bool.eq_false_iff.mpr (fun z => q (e1.mpr z)), Bool.false_and]
        · unfold tgM
          rw [Bool.eq_false_iff.mpr (fun z => q2 (e2.mpr z)), Bool.and_false]
        · unfold tgM
          rw [e1.mp q, e2.mp q2]
          rfl
    refine hX [6] 20 _ _ _ _ _ ?_
    exact key i i (Nat.le_refl _) rfl
  · exact h.elim
theorem shX5_componentOf : ∀ As f a Q, sX5_componentOf As f a Q → ∃ i r, As = .inr (.inr (5, i, 0)) :: r := by
  intro As f a Q h
  unfold sX5_componentOf at h
  split at h
  · exact ⟨_, _, rfl⟩
  · exact h.elim
theorem mX5_componentOf {g : Gm} (hg : GmOK g) : MetC g yX5_componentOf cX5_componentOf 4 (some .int) 2 sX5_componentOf := by
  refine MetC_of hg eX5_componentOf (eokX5_componentOf hg) (by decide +kernel) (fun av f a post h => ?_) rX5_componentOf
  unfold sX5_componentOf at h
  split at h
  · exact Nat.le_of_ble_eq_true rfl
  · exact h.elim
