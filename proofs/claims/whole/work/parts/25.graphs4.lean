/-! Graphs: loops that a function comes to; components; words -/
theorem come_lt {L : List Gr} (hL : WL L) (i : Nat) : comeN L i < 8 := by
  have key : ∀ (M : List Gr) (m : Nat), m < 8 → (∀ e ∈ M, e.2.1 < 3) → M.foldl (fun m e => if e.1 = i then m ||| 2 ^ e.2.1 else m) m < 8 := by
    intro M
    induction M with
    | nil => intro m hm _; exact hm
    | cons e M ih =>
      intro m hm hM
      refine ih _ ?_ (fun e he => hM e (List.mem_cons_of_mem _ he))
      have h3 := hM e List.mem_cons_self
      dsimp only
      split
      · exact Nat.or_lt_two_pow (n := 3) hm (Nat.pow_lt_pow_right (by decide) h3)
      · exact hm
  refine key L 0 (by decide) (fun e he => ?_)
  obtain ⟨g, hg⟩ := List.getElem?_of_mem he
  have hlt := (List.getElem?_eq_some_iff.mp hg).1
  have := ge_at hlt
  rw [hg] at this
  rw [Option.some.inj this]
  exact (hL.1 g hlt).2.1
theorem bit_8 : ∀ m, m < 8 → ∀ k, k < 3 → ((nI m >>> (nI k &&& 31)) &&& 1 = 0 ↔ m.testBit k = false) := by decide +kernel
theorem bit_88 : ∀ m, m < 8 → ∀ m', m' < 8 → ∀ k, k < 3 → ∀ j, j < 3 → (((nI m >>> (nI k &&& 31)) &&& (nI m' >>> (nI j &&& 31))) &&& 1 = 0 ↔ (m.testBit k && m'.testBit j) = false) := by decide +kernel
/-- whether graph g is a loop that function i comes to, or has -/
def loopOfB (L : List Gr) (i : Nat) : Nat → Bool := fun g => (comeN L i ||| 2 ^ i).testBit (ge L g).1 && loopE (ge L g)
def sX0_firstLoopOf : SP := fun As f a Q => match As with
  | [.inr (.inr (0, p, 0)), .inl x] => ∃ L i, GR (f 0 p) (a 0 p) L ∧ WL L ∧ x = nI i ∧ i < 3 ∧ Q (some (.inl (fI (firstU (loopOfB L i) L.length 0)))) f a
  | _ => False
def eX0_firstLoopOf : En := (tX0_firstLoopOf, [(78, false, 2, sX0_fromOf), (94, false, 2, sX0_isLoop)], fdX0, [], 0)
theorem eokX0_firstLoopOf {g : Gm} (hg : GmOK g) : EnvOK g 3 RX0 cX0_firstLoopOf (some .int) eX0_firstLoopOf := ⟨okX0_firstLoopOf, fun _ _ _ _ h => as2_all (P := fun i v => CallOK g 3 RX0 i v.1 v.2.1 v.2.2) (l := eX0_firstLoopOf.2.1) ⟨callV_ok (t := 0) hg (mX0_fromOf hg) kX0_fromOf mlX0_78 qX0_fromOf.1 qX0_fromOf.2 ⟨by decide, by decide⟩ ⟨_, _, rfl⟩ shX0_fromOf, callV_ok (t := 0) hg (mX0_isLoop hg) kX0_isLoop mlX0_94 qX0_isLoop.1 qX0_isLoop.2 ⟨by decide, by decide⟩ ⟨_, _, rfl⟩ shX0_isLoop, trivial⟩ h, fdX0_ok, (fun _ _ h => by cases h), rfl⟩
theorem rX0_firstLoopOf (av : List AV) (f : FF) (a : AA) (post : PT) (h : sX0_firstLoopOf av f a post) (X : XT) (hX : Clo eX0_firstLoopOf post X) : X 0 (padL 4 (ent av)) [] f a := by
  unfold sX0_firstLoopOf at h
  split at h
  · rename_i p x
    obtain ⟨L, i, hG, hL, rfl, hi, h⟩ := h
    have hlen := WL_len hL
    have hcl := come_lt hL i
    have hm8 : comeN L i ||| 2 ^ i < 8 := Nat.or_lt_two_pow (n := 3) hcl (Nat.pow_lt_pow_right (by decide) hi)
    have ci : (nI i).toNatClampNeg = i := nI_clamp (by omega)
    refine hX [13] 90 _ _ _ _ _ ?_
    refine ⟨inA 3 rfl rfl hi (by decide), ?_⟩
    dsimp only
    rw [ci]
    have key : ∀ d g, g + d = L.length → post (some (.inl (fI (firstU (loopOfB L i) d g)))) f a → X 13 [some (.inr (.inr (0, p, 0))), some (.inl (nI i)), some (.inl (nI (comeN L i ||| 2 ^ i))), some (.inl (nI g))] [] f a := by
      intro d
      induction d with
      | zero =>
        intro g hgd h
        refine hX [13] 90 _ _ _ _ _ ?_
        refine ⟨fun q => h, fun q => ?_⟩
        rw [hG.1] at q
        exact absurd (nI_le (by omega) (by omega)) q
      | succ d ih =>
        intro g hgd h
        have hg : g < L.length := by omega
        have he := hL.1 g hg
        have hE := hG.2.2.1 g hg
        have skip : loopOfB L i g = false → X 13 [some (.inr (.inr (0, p, 0))), some (.inl (nI i)), some (.inl (nI (comeN L i ||| 2 ^ i))), some (.inl (nI g + 1))] [] f a := by
          intro hb
          rw [← nI_succ]
          refine ih (g + 1) (by omega) ?_
          simpa [firstU, hb] using h
        refine hX [13] 90 _ _ _ _ _ ?_
        refine ⟨fun q => ?_, fun q => ?_⟩
        · rw [hG.1] at q
          exact absurd q (nI_ge hg (by omega))
        · refine ⟨g, (ge L g).1, (ge L g).2.1, rfl, by omega, hE.2.1, he.1, he.2.1, fun q1 => ?_, fun q1 => ?_⟩
          · have q1 := (bit_8 _ hm8 _ he.1).mp q1
            exact skip (by simp only [loopOfB, q1, Bool.false_and])
          · have q1 : (comeN L i ||| 2 ^ i).testBit (ge L g).1 = true := by
              cases hh : (comeN L i ||| 2 ^ i).testBit (ge L g).1 with
              | true => rfl
              | false => exact absurd ((bit_8 _ hm8 _ he.1).mpr hh) q1
            refine ⟨g, (ge L g).1, (ge L g).2.1, (ge L g).2.2.1, rfl, by omega, hE.2.1, he.1, he.2.1, hE.1, he.2.2.1, fun q2 => ?_, fun q2 => ?_⟩
            · exact skip (by simp only [loopOfB, show loopE (ge L g) = false from b2i_e0.mp q2, Bool.and_false])
            · have hb : loopOfB L i g = true := by simp only [loopOfB, q1, show loopE (ge L g) = true from b2i_n0.mp q2, Bool.and_self]
              refine pI h ?_
              simp [firstU, hb, fI]
    have k0 := key L.length 0 (by omega) h
    rw [← fa_or, ← shl_t i (by omega), ← hG.2.2.2.2 i hi] at k0
    exact k0
  · exact h.elim
theorem shX0_firstLoopOf : ∀ As f a Q, sX0_firstLoopOf As f a Q → ∃ i r, As = .inr (.inr (0, i, 0)) :: r := by
  intro As f a Q h
  unfold sX0_firstLoopOf at h
  split at h
  · exact ⟨_, _, rfl⟩
  · exact h.elim
theorem mX0_firstLoopOf {g : Gm} (hg : GmOK g) : MetC g yX0_firstLoopOf cX0_firstLoopOf 4 (some .int) 3 sX0_firstLoopOf := by
  refine MetC_of hg eX0_firstLoopOf (eokX0_firstLoopOf hg) (by decide +kernel) (fun av f a post h => ?_) rX0_firstLoopOf
  unfold sX0_firstLoopOf at h
  split at h
  · exact Nat.le_of_ble_eq_true rfl
  · exact h.elim
def comI (L : List Gr) : Nat → Int32
  | 0 => if loopC L = 0 then 0 else -1
  | g + 1 => if loopE (ge L g) then comI L g &&& nI (ge L g).2.2.2.2.2.2 else comI L g
def sX0_callsOfEveryLoop : SP := fun As f a Q => match As with
  | [.inr (.inr (0, p, 0))] => ∃ L, GR (f 0 p) (a 0 p) L ∧ WL L ∧ Q (some (.inl (comI L L.length))) f a
  | _ => False
def eX0_callsOfEveryLoop : En := (tX0_callsOfEveryLoop, [(94, false, 2, sX0_isLoop)], fdX0, [], 0)
theorem eokX0_callsOfEveryLoop {g : Gm} (hg : GmOK g) : EnvOK g 3 RX0 cX0_callsOfEveryLoop (some .int) eX0_callsOfEveryLoop := ⟨okX0_callsOfEveryLoop, fun _ _ _ _ h => as2_all (P := fun i v => CallOK g 3 RX0 i v.1 v.2.1 v.2.2) (l := eX0_callsOfEveryLoop.2.1) ⟨callV_ok (t := 0) hg (mX0_isLoop hg) kX0_isLoop mlX0_94 qX0_isLoop.1 qX0_isLoop.2 ⟨by decide, by decide⟩ ⟨_, _, rfl⟩ shX0_isLoop, trivial⟩ h, fdX0_ok, (fun _ _ h => by cases h), rfl⟩
theorem rX0_callsOfEveryLoop (av : List AV) (f : FF) (a : AA) (post : PT) (h : sX0_callsOfEveryLoop av f a post) (X : XT) (hX : Clo eX0_callsOfEveryLoop post X) : X 0 (padL 3 (ent av)) [] f a := by
  unfold sX0_callsOfEveryLoop at h
  split at h
  · rename_i p
    obtain ⟨L, hG, hL, h⟩ := h
    have hlen := WL_len hL
    have key : X 15 [some (.inr (.inr (0, p, 0))), some (.inl (comI L 0)), some (.inl (nI 0))] [] f a := by
      refine forUp (Pr := fun g => X 15 [some (.inr (.inr (0, p, 0))), some (.inl (comI L g)), some (.inl (nI g))] [] f a) (n := L.length) (fun g hg next => ?_) ?_ 0 (Nat.zero_le _)
      · have he := hL.1 g hg
        have hE := hG.2.2.1 g hg
        refine hX [15] 90 _ _ _ _ _ ?_
        refine ⟨fun q => ?_, fun q => ?_⟩
        · rw [hG.1] at q
          exact absurd q (nI_ge hg (by omega))
        · rw [comI, nI_succ] at next
          refine ⟨g, (ge L g).1, (ge L g).2.1, (ge L g).2.2.1, rfl, by omega, hE.2.1, he.1, he.2.1, hE.1, he.2.2.1, fun q2 => ?_, fun q2 => ?_⟩
          · rw [if_neg (by rw [show loopE (ge L g) = false from b2i_e0.mp q2]; decide)] at next
            exact next
          · rw [if_pos (show loopE (ge L g) = true from b2i_n0.mp q2), ← hE.2.2.2.2.2] at next
            refine ⟨inA 729 rfl rfl (by omega) (by decide), ?_⟩
            rw [nI_clamp (by omega)]
            exact next
      · refine hX [15] 90 _ _ _ _ _ ?_
        refine ⟨fun q => h, fun q => ?_⟩
        rw [hG.1] at q
        exact absurd (Int32.le_refl _) q
    refine hX [15] 90 _ _ _ _ _ ?_
    refine ⟨fun q => ?_, fun q => ?_⟩
    · rw [hG.2.1] at q
      have q : ¬ loopC L = 0 := fun z => q (by rw [z]; rfl)
      rw [comI, if_neg q] at key
      exact key
    · rw [hG.2.1] at q
      have q : loopC L = 0 := (i_eq (b := 0) rfl rfl (i31 (loopC_lt hL)) (by decide)).mp q
      rw [comI, if_pos q] at key
      exact key
  · exact h.elim
theorem shX0_callsOfEveryLoop : ∀ As f a Q, sX0_callsOfEveryLoop As f a Q → ∃ i r, As = .inr (.inr (0, i, 0)) :: r := by
  intro As f a Q h
  unfold sX0_callsOfEveryLoop at h
  split at h
  · exact ⟨_, _, rfl⟩
  · exact h.elim
theorem mX0_callsOfEveryLoop {g : Gm} (hg : GmOK g) : MetC g yX0_callsOfEveryLoop cX0_callsOfEveryLoop 3 (some .int) 3 sX0_callsOfEveryLoop := by
  refine MetC_of hg eX0_callsOfEveryLoop (eokX0_callsOfEveryLoop hg) (by decide +kernel) (fun av f a post h => ?_) rX0_callsOfEveryLoop
  unfold sX0_callsOfEveryLoop at h
  split at h
  · exact Nat.le_of_ble_eq_true rfl
  · exact h.elim
def togB (L : List Gr) (i j : Nat) : Bool := decide (i = j) || ((comeN L i).testBit j && (comeN L j).testBit i)
def sX0_isTogether : SP := fun As f a Q => match As with
  | [.inr (.inr (0, p, 0)), .inl x, .inl y] => ∃ L i j, GR (f 0 p) (a 0 p) L ∧ WL L ∧ x = nI i ∧ i < 3 ∧ y = nI j ∧ j < 3 ∧ Q (some (.inl (b2i (togB L i j)))) f a
  | _ => False
def eX0_isTogether : En := (tX0_isTogether, [], fdX0, [], 1)
theorem eokX0_isTogether {g : Gm} (hg : GmOK g) : EnvOK g 0 RX0 cX0_isTogether (some .boolean) eX0_isTogether := ⟨okX0_isTogether, (fun _ _ _ _ h => by cases h), fdX0_ok, (fun _ _ h => by cases h), rfl⟩
theorem rX0_isTogether (av : List AV) (f : FF) (a : AA) (post : PT) (h : sX0_isTogether av f a post) (X : XT) (hX : Clo eX0_isTogether post X) : X 0 (padL 3 (ent av)) [] f a := by
  unfold sX0_isTogether at h
  split at h
  · rename_i p x y
    obtain ⟨L, i, j, hG, hL, rfl, hi, rfl, hj, h⟩ := h
    have b := bit_88 _ (come_lt hL i) _ (come_lt hL j) j hj i hi
    refine hX [] 90 _ _ _ _ _ ?_
    refine ⟨fun q => ?_, fun q => ?_⟩
    · have q : i = j := (nI_eq (by omega) (by omega)).mp q
      exact pT h (by simp [togB, q])
    · have q : ¬ i = j := fun z => q (by rw [z])
      refine ⟨inA 3 rfl rfl hi (by decide), inA 3 rfl rfl hj (by decide), ?_⟩
      dsimp only
      rw [nI_clamp (show i < 2 ^ 31 by omega), nI_clamp (show j < 2 ^ 31 by omega), hG.2.2.2.2 i hi, hG.2.2.2.2 j hj]
      refine ⟨fun d => ?_, fun d => ?_⟩
      · exact pF h (by simp only [togB, b.mp d, decide_eq_false q, Bool.or_self])
      · exact pT h (by
          have : ((comeN L i).testBit j && (comeN L j).testBit i) = true := by
            cases hh : ((comeN L i).testBit j && (comeN L j).testBit i) with
            | true => rfl
            | false => exact absurd (b.mpr hh) d
          simp only [togB, this, Bool.or_true])
  · exact h.elim
theorem shX0_isTogether : ∀ As f a Q, sX0_isTogether As f a Q → ∃ i r, As = .inr (.inr (0, i, 0)) :: r := by
  intro As f a Q h
  unfold sX0_isTogether at h
  split at h
  · exact ⟨_, _, rfl⟩
  · exact h.elim
theorem mX0_isTogether {g : Gm} (hg : GmOK g) : MetC g yX0_isTogether cX0_isTogether 3 (some .boolean) 0 sX0_isTogether := by
  refine MetC_of hg eX0_isTogether (eokX0_isTogether hg) (by decide +kernel) (fun av f a post h => ?_) rX0_isTogether
  unfold sX0_isTogether at h
  split at h
  · exact Nat.le_of_ble_eq_true rfl
  · exact h.elim
def fcN (L : List Gr) (i : Nat) : Nat := (firstU (togB L i) i 0).getD i
theorem firstU_le {p : Nat → Bool} : ∀ {d i g : Nat}, firstU p d i = some g → i ≤ g ∧ g < i + d ∧ p g = true
  | 0, _, _, h => by cases h
  | d + 1, i, g, h => by
    unfold firstU at h
    split at h
    · rename_i hp
      cases h
      exact ⟨Nat.le_refl _, by omega, hp⟩
    · obtain ⟨h1, h2, h3⟩ := firstU_le h
      exact ⟨by omega, by omega, h3⟩
theorem fcN_le (L : List Gr) (i : Nat) : fcN L i ≤ i := by
  unfold fcN
  cases h : firstU (togB L i) i 0 with
  | none => exact Nat.le_refl _
  | some g => have := firstU_le h; show g ≤ i; omega
def sX0_firstOfComponent : SP := fun As f a Q => match As with
  | [.inr (.inr (0, p, 0)), .inl x] => ∃ L i, GR (f 0 p) (a 0 p) L ∧ WL L ∧ x = nI i ∧ i < 3 ∧ Q (some (.inl (nI (fcN L i)))) f a
  | _ => False
def eX0_firstOfComponent : En := (tX0_firstOfComponent, [(111, false, 3, sX0_isTogether)], fdX0, [], 0)
theorem eokX0_firstOfComponent {g : Gm} (hg : GmOK g) : EnvOK g 1 RX0 cX0_firstOfComponent (some .int) eX0_firstOfComponent := ⟨okX0_firstOfComponent, fun _ _ _ _ h => as2_all (P := fun i v => CallOK g 1 RX0 i v.1 v.2.1 v.2.2) (l := eX0_firstOfComponent.2.1) ⟨callV_ok (t := 0) hg (mX0_isTogether hg) kX0_isTogether mlX0_111 qX0_isTogether.1 qX0_isTogether.2 ⟨by decide, by decide⟩ ⟨_, _, rfl⟩ shX0_isTogether, trivial⟩ h, fdX0_ok, (fun _ _ h => by cases h), rfl⟩
theorem rX0_firstOfComponent (av : List AV) (f : FF) (a : AA) (post : PT) (h : sX0_firstOfComponent av f a post) (X : XT) (hX : Clo eX0_firstOfComponent post X) : X 0 (padL 3 (ent av)) [] f a := by
  unfold sX0_firstOfComponent at h
  split at h
  · rename_i p x
    obtain ⟨L, i, hG, hL, rfl, hi, h⟩ := h
    have key : ∀ d j, j + d = i → post (some (.inl (nI ((firstU (togB L i) d j).getD i)))) f a → X 2 [some (.inr (.inr (0, p, 0))), some (.inl (nI i)), some (.inl (nI j))] [] f a := by
      intro d
      induction d with
      | zero =>
        intro j hj h
        refine hX [2] 90 _ _ _ _ _ ?_
        exact ⟨fun q => h, fun q => absurd (nI_le (by omega) (by omega)) q⟩
      | succ d ih =>
        intro j hj h
        refine hX [2] 90 _ _ _ _ _ ?_
        refine ⟨fun q => absurd q (nI_ge (by omega) (by omega)), fun q => ?_⟩
        refine ⟨L, i, j, hG, hL, rfl, hi, rfl, by omega, fun q => ?_, fun q => ?_⟩
        · have n1 := ih (j + 1) (by omega) (by simpa [firstU, b2i_e0.mp q] using h)
          rw [nI_succ] at n1
          exact n1
        · refine pI h ?_
          simp [firstU, b2i_n0.mp q]
    refine hX [2] 90 _ _ _ _ _ ?_
    exact key i 0 (by omega) h
  · exact h.elim
theorem shX0_firstOfComponent : ∀ As f a Q, sX0_firstOfComponent As f a Q → ∃ i r, As = .inr (.inr (0, i, 0)) :: r := by
  intro As f a Q h
  unfold sX0_firstOfComponent at h
  split at h
  · exact ⟨_, _, rfl⟩
  · exact h.elim
theorem mX0_firstOfComponent {g : Gm} (hg : GmOK g) : MetC g yX0_firstOfComponent cX0_firstOfComponent 3 (some .int) 1 sX0_firstOfComponent := by
  refine MetC_of hg eX0_firstOfComponent (eokX0_firstOfComponent hg) (by decide +kernel) (fun av f a post h => ?_) rX0_firstOfComponent
  unfold sX0_firstOfComponent at h
  split at h
  · exact Nat.le_of_ble_eq_true rfl
  · exact h.elim
def cbN (L : List Gr) (n : Nat) : Nat := cnt (fun j => decide (fcN L j = j)) n
def sX0_componentsBelow : SP := fun As f a Q => match As with
  | [.inr (.inr (0, p, 0)), .inl x] => ∃ L n, GR (f 0 p) (a 0 p) L ∧ WL L ∧ x = nI n ∧ n ≤ 3 ∧ Q (some (.inl (nI (cbN L n)))) f a
  | _ => False
def eX0_componentsBelow : En := (tX0_componentsBelow, [(115, false, 2, sX0_firstOfComponent), (98, true, 1, sX4_bit)], fdX0, [], 0)
theorem eokX0_componentsBelow {g : Gm} (hg : GmOK g) : EnvOK g 2 RX0 cX0_componentsBelow (some .int) eX0_componentsBelow := ⟨okX0_componentsBelow, fun _ _ _ _ h => as2_all (P := fun i v => CallOK g 2 RX0 i v.1 v.2.1 v.2.2) (l := eX0_componentsBelow.2.1) ⟨callV_ok (t := 0) hg (mX0_firstOfComponent hg) kX0_firstOfComponent mlX0_115 qX0_firstOfComponent.1 qX0_firstOfComponent.2 ⟨by decide, by decide⟩ ⟨_, _, rfl⟩ shX0_firstOfComponent, callN_ok (host := "FallingCalls") hg (mX4_bit hg) kX4_bit (nxX0_98 hg) qX4_bit ⟨by decide, by decide⟩, trivial⟩ h, fdX0_ok, (fun _ _ h => by cases h), rfl⟩
theorem rX0_componentsBelow (av : List AV) (f : FF) (a : AA) (post : PT) (h : sX0_componentsBelow av f a post) (X : XT) (hX : Clo eX0_componentsBelow post X) : X 0 (padL 4 (ent av)) [] f a := by
  unfold sX0_componentsBelow at h
  split at h
  · rename_i p x
    obtain ⟨L, n, hG, hL, rfl, hn, h⟩ := h
    refine hX [4] 90 _ _ _ _ _ ?_
    refine forUp (Pr := fun j => X 4 [some (.inr (.inr (0, p, 0))), some (.inl (nI n)), some (.inl (nI (cbN L j))), some (.inl (nI j))] [] f a) (n := n) (fun j hj next => ?_) ?_ 0 (Nat.zero_le _)
    · have hle := fcN_le L j
      refine hX [4] 90 _ _ _ _ _ ?_
      refine ⟨fun q => absurd q (nI_ge hj (by omega)), fun q => ?_⟩
      rw [cbN, cnt_s, nI_succ] at next
      refine ⟨L, j, hG, hL, rfl, by omega, fun q => ?_, fun q => ?_⟩
      · have q : ¬ fcN L j = j := fun z => q (by rw [z])
        rw [decide_eq_false q] at next
        exact next
      · have q : fcN L j = j := (nI_eq (by omega) (by omega)).mp q
        rw [decide_eq_true q] at next
        exact next
    · refine hX [4] 90 _ _ _ _ _ ?_
      exact ⟨fun q => h, fun q => absurd (Int32.le_refl _) q⟩
  · exact h.elim
theorem shX0_componentsBelow : ∀ As f a Q, sX0_componentsBelow As f a Q → ∃ i r, As = .inr (.inr (0, i, 0)) :: r := by
  intro As f a Q h
  unfold sX0_componentsBelow at h
  split at h
  · exact ⟨_, _, rfl⟩
  · exact h.elim
theorem mX0_componentsBelow {g : Gm} (hg : GmOK g) : MetC g yX0_componentsBelow cX0_componentsBelow 4 (some .int) 2 sX0_componentsBelow := by
  refine MetC_of hg eX0_componentsBelow (eokX0_componentsBelow hg) (by decide +kernel) (fun av f a post h => ?_) rX0_componentsBelow
  unfold sX0_componentsBelow at h
  split at h
  · exact Nat.le_of_ble_eq_true rfl
  · exact h.elim
def sX0_componentOf : SP := fun As f a Q => match As with
  | [.inr (.inr (0, p, 0)), .inl x] => ∃ L i, GR (f 0 p) (a 0 p) L ∧ WL L ∧ x = nI i ∧ i < 3 ∧ Q (some (.inl (nI (cbN L (fcN L i))))) f a
  | _ => False
def eX0_componentOf : En := (tX0_componentOf, [(115, false, 2, sX0_firstOfComponent), (118, false, 2, sX0_componentsBelow)], fdX0, [], 0)
theorem eokX0_componentOf {g : Gm} (hg : GmOK g) : EnvOK g 3 RX0 cX0_componentOf (some .int) eX0_componentOf := ⟨okX0_componentOf, fun _ _ _ _ h => as2_all (P := fun i v => CallOK g 3 RX0 i v.1 v.2.1 v.2.2) (l := eX0_componentOf.2.1) ⟨callV_ok (t := 0) hg (mX0_firstOfComponent hg) kX0_firstOfComponent mlX0_115 qX0_firstOfComponent.1 qX0_firstOfComponent.2 ⟨by decide, by decide⟩ ⟨_, _, rfl⟩ shX0_firstOfComponent, callV_ok (t := 0) hg (mX0_componentsBelow hg) kX0_componentsBelow mlX0_118 qX0_componentsBelow.1 qX0_componentsBelow.2 ⟨by decide, by decide⟩ ⟨_, _, rfl⟩ shX0_componentsBelow, trivial⟩ h, fdX0_ok, (fun _ _ h => by cases h), rfl⟩
theorem rX0_componentOf (av : List AV) (f : FF) (a : AA) (post : PT) (h : sX0_componentOf av f a post) (X : XT) (hX : Clo eX0_componentOf post X) : X 0 (padL 2 (ent av)) [] f a := by
  unfold sX0_componentOf at h
  split at h
  · rename_i p x
    obtain ⟨L, i, hG, hL, rfl, hi, h⟩ := h
    have hle := fcN_le L i
    refine hX [] 90 _ _ _ _ _ ?_
    exact ⟨L, i, hG, hL, rfl, hi, L, fcN L i, hG, hL, rfl, by omega, h⟩
  · exact h.elim
theorem shX0_componentOf : ∀ As f a Q, sX0_componentOf As f a Q → ∃ i r, As = .inr (.inr (0, i, 0)) :: r := by
  intro As f a Q h
  unfold sX0_componentOf at h
  split at h
  · exact ⟨_, _, rfl⟩
  · exact h.elim
theorem mX0_componentOf {g : Gm} (hg : GmOK g) : MetC g yX0_componentOf cX0_componentOf 2 (some .int) 3 sX0_componentOf := by
  refine MetC_of hg eX0_componentOf (eokX0_componentOf hg) (by decide +kernel) (fun av f a post h => ?_) rX0_componentOf
  unfold sX0_componentOf at h
  split at h
  · exact Nat.le_of_ble_eq_true rfl
  · exact h.elim
/-- the k-th call of a word: go back from its end -/
def wordU (L : List Gr) : Nat → Nat → Nat
  | 0, g => (ge L g).2.2.2.2.1
  | d + 1, g => match (ge L g).2.2.2.1 with
    | some h => wordU L d h
    | none => (ge L g).2.2.2.2.1
def sX0_callOfWord : SP := fun As f a Q => match As with
  | [.inr (.inr (0, p, 0)), .inl x, .inl y] => ∃ L g k, GR (f 0 p) (a 0 p) L ∧ WL L ∧ x = nI g ∧ g < L.length ∧ y = nI k ∧ k < (ge L g).2.2.2.2.2.1 ∧ Q (some (.inl (nI (wordU L ((ge L g).2.2.2.2.2.1 - 1 - k) g)))) f a
  | _ => False
def eX0_callOfWord : En := (tX0_callOfWord, [], fdX0, [], 0)
theorem eokX0_callOfWord {g : Gm} (hg : GmOK g) : EnvOK g 0 RX0 cX0_callOfWord (some .int) eX0_callOfWord := ⟨okX0_callOfWord, (fun _ _ _ _ h => by cases h), fdX0_ok, (fun _ _ h => by cases h), rfl⟩
theorem rX0_callOfWord (av : List AV) (f : FF) (a : AA) (post : PT) (h : sX0_callOfWord av f a post) (X : XT) (hX : Clo eX0_callOfWord post X) : X 0 (padL 5 (ent av)) [] f a := by
  unfold sX0_callOfWord at h
  split at h
  · rename_i p x y
    obtain ⟨L, g, k, hG, hL, rfl, hg, rfl, hk, h⟩ := h
    have hlen := WL_len hL
    have he := hL.1 g hg
    have hE := hG.2.2.1 g hg
    have hw := he.2.2.2.2.2.2.2.1
    have key : ∀ d g1, g1 < L.length → (ge L g1).2.2.2.2.2.1 = k + d + 1 → post (some (.inl (nI (wordU L d g1)))) f a → X 12 [some (.inr (.inr (0, p, 0))), some (.inl (nI g)), some (.inl (nI k)), some (.inl (nI g1)), some (.inl (nI (k + d)))] [] f a := by
      intro d
      induction d with
      | zero =>
        intro g1 hg1 hw1 h
        have hE1 := hG.2.2.1 g1 hg1
        refine hX [12] 90 _ _ _ _ _ ?_
        refine ⟨fun q => ?_, fun q => absurd (Int32.le_refl _) q⟩
        refine ⟨inA 729 rfl rfl (by omega) (by decide), pI h ?_⟩
        rw [nI_clamp (by omega), hE1.2.2.2.1]
        rfl
      | succ d ih =>
        intro g1 hg1 hw1 h
        have hE1 := hG.2.2.1 g1 hg1
        have he1 := hL.1 g1 hg1
        have hw2 := he1.2.2.2.2.2.2.2.1
        refine hX [12] 90 _ _ _ _ _ ?_
        refine ⟨fun q => absurd q (nI_ge (by omega) (by omega)), fun q => ?_⟩
        refine ⟨inA 729 rfl rfl (by omega) (by decide), ?_⟩
        cases ha : (ge L g1).2.2.2.1 with
        | none =>
          have := he1.2.2.2.2.2.1 ha
          omega
        | some h1 =>
          obtain ⟨q1, q2⟩ := he1.2.2.2.2.1 h1 ha
          have n1 := ih h1 (by omega) (by omega) (by simpa [wordU, ha] using h)
          have e1 : a 0 p 7 (nI g1).toNatClampNeg = nI h1 := by
            rw [nI_clamp (by omega), hE1.2.2.1, ha]
            rfl
          have e2 : nI (k + d) = nI (k + (d + 1)) + (-1) := (pk_m1 (k + d)).symm
          rw [← e1, e2] at n1
          exact n1
    refine hX [12] 90 _ _ _ _ _ ?_
    refine ⟨inA 729 rfl rfl (by omega) (by decide), ?_⟩
    have n1 := key ((ge L g).2.2.2.2.2.1 - 1 - k) g hg (by omega) h
    have e3 : nI (k + ((ge L g).2.2.2.2.2.1 - 1 - k)) = a 0 p 1 (nI g).toNatClampNeg - 1 := by
      rw [nI_clamp (by omega), hE.2.2.2.2.1, show (1 : Int32) = nI 1 from rfl, pk_sub (by omega)]
      congr 1
      omega
    rw [e3] at n1
    exact n1
  · exact h.elim
theorem shX0_callOfWord : ∀ As f a Q, sX0_callOfWord As f a Q → ∃ i r, As = .inr (.inr (0, i, 0)) :: r := by
  intro As f a Q h
  unfold sX0_callOfWord at h
  split at h
  · exact ⟨_, _, rfl⟩
  · exact h.elim
theorem mX0_callOfWord {g : Gm} (hg : GmOK g) : MetC g yX0_callOfWord cX0_callOfWord 5 (some .int) 0 sX0_callOfWord := by
  refine MetC_of hg eX0_callOfWord (eokX0_callOfWord hg) (by decide +kernel) (fun av f a post h => ?_) rX0_callOfWord
  unfold sX0_callOfWord at h
  split at h
  · exact Nat.le_of_ble_eq_true rfl
  · exact h.elim
