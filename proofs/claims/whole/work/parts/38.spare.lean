/-! spare, mend -/
theorem bt_1 : ∀ i, i < 32 → bt 1 i = decide (i = 0) := by decide +kernel
theorem zb_bt (x : Int32) {c : Nat} (hc : c < 32) : (x >>> (nI c &&& 31)) &&& 1 = 0 ↔ bt x c = false := by
  constructor
  · intro h
    have h1 : bt ((x >>> (nI c &&& 31)) &&& 1) 0 = bt 0 0 := by rw [h]
    rw [b_and, b_sshr c hc x (by decide), b_0, bt_1 0 (by decide)] at h1
    simpa [hc] using h1
  · intro h
    refine b_ext (fun i hi => ?_)
    rw [b_and, b_sshr c hc x hi, b_0, bt_1 i hi]
    by_cases h0 : i = 0
    · subst h0
      simp [hc, h]
    · simp [h0]
theorem bt_n {m i : Nat} (hi : i < 32) : bt (nI m) i = m.testBit i := by
  show (BitVec.ofNat 32 m).getLsbD i = _
  rw [BitVec.getLsbD_ofNat]
  simp [hi]
theorem comI_bit {L : List Gr} {c : Nat} (hc : c < 32) : ∀ n, bt (comI L n) c = false → loopC L = 0 ∨ ∃ g, g < n ∧ loopE (ge L g) = true ∧ (ge L g).2.2.2.2.2.2.testBit c = false
  | 0, h => by
    unfold comI at h
    by_cases h0 : loopC L = 0
    · exact Or.inl h0
    · rw [if_neg h0, b_m1 c hc] at h
      cases h
  | n + 1, h => by
    unfold comI at h
    split at h
    · rename_i hl
      rw [b_and, bt_n hc, Bool.and_eq_false_iff] at h
      rcases h with h | h
      · rcases comI_bit hc n h with q | ⟨g, q1, q2⟩
        · exact Or.inl q
        · exact Or.inr ⟨g, by omega, q2⟩
      · exact Or.inr ⟨n, by omega, hl, h⟩
    · rcases comI_bit hc n h with q | ⟨g, q1, q2⟩
      · exact Or.inl q
      · exact Or.inr ⟨g, by omega, q2⟩
def erP (P : Pg) (c : Nat) : Pg := (P.1, P.2.eraseIdx c)
theorem kf_er (P : Pg) (c j : Nat) : kf (erP P c) j = kf P (if j < c then j else j + 1) := by
  simp only [kf, codeN, relM, rel, fr, to, ag, erP, cl_er, ar]
  rfl
theorem WF.er {P : Pg} (h : WF P) {c : Nat} (hc : c < P.2.length) : WF (erP P c) := by
  refine ⟨h.1, ?_, h.2.2.1, fun j hj => ?_⟩
  · show (P.2.eraseIdx c).length ≤ 12
    rw [List.length_eraseIdx, if_pos hc]
    have := h.l12
    omega
  · have hj : j < (P.2.eraseIdx c).length := hj
    rw [List.length_eraseIdx, if_pos hc] at hj
    show okC (P.1, P.2.eraseIdx c) (cl (P.1, P.2.eraseIdx c) j)
    rw [cl_er]
    split
    · exact h.2.2.2 j (by omega)
    · exact h.2.2.2 (j + 1) (by omega)
theorem er_len {P : Pg} {c : Nat} (hc : c < P.2.length) : (erP P c).2.length = P.2.length - 1 := by
  show (P.2.eraseIdx c).length = _
  rw [List.length_eraseIdx, if_pos hc]
theorem Bk_er {P : Pg} {c j : Nat} (hc : c < P.2.length) (hj : j < P.2.length) (hn : j ≠ c) : Bk (kf (erP P c)) (fun _ => true) (erP P c).2.length (kf P j) := by
  by_cases h : j < c
  · exact ⟨j, by rw [er_len hc]; omega, rfl, by rw [kf_er, if_pos h]⟩
  · exact ⟨j - 1, by rw [er_len hc]; omega, rfl, by rw [kf_er, if_neg (by omega), show j - 1 + 1 = j by omega]⟩
/-- the first call without which there is no loop, if there is one now -/
def endsB (P : Pg) : Bool := decide (loopC (clo P) = 0)
def spN (P : Pg) : Option Nat := if endsB P then none else firstU (fun c => endsB (erP P c)) P.2.length 0
theorem RepC.stl {f f1 : FF} {a a1 : AA} {A : Ab} (h : RepC f a A) (h1 : ∀ t i, t ≠ 0 → t ≠ 4 → f1 t i = f t i ∧ a1 t i = a t i) (h2 : ∀ k, k ≠ 7 → f1 4 0 k = f 4 0 k) (h3 : a1 4 0 = a 4 0) (h4 : f1 4 0 7 = 1) : RepC f1 a1 A ∧ S5 f a f1 a1 := by
  refine ⟨⟨?_, ?_, ?_, ?_, ?_, Or.inl h4, fun p hp => by rw [(h1 1 p (by decide) (by decide)).2]; exact h.2.2.2.2.2.2 p hp⟩, h1 5 0 (by decide) (by decide)⟩
  · rw [(h1 1 0 (by decide) (by decide)).1, (h1 1 0 (by decide) (by decide)).2]; exact h.1
  · rw [(h1 3 0 (by decide) (by decide)).1, (h1 3 0 (by decide) (by decide)).2]; exact h.2.1
  · intro k hk
    rw [h3, (h1 1 (2 + k) (by decide) (by decide)).1, (h1 1 (2 + k) (by decide) (by decide)).2]
    exact h.2.2.1 k hk
  · intro k hk
    rw [(h1 2 k (by decide) (by decide)).1, (h1 2 k (by decide) (by decide)).2]
    exact h.2.2.2.1 k hk
  · rw [h2 8 (by decide)]; exact h.2.2.2.2.1
def sX4_spare : SP := fun As f a Q => match As with
  | [.inr (.inr (4, 0, 0))] => ∃ A, RepC f a A ∧ OKA A ∧ ∀ f' a', RepC f' a' A → S5 f a f' a' → Q (some (.inl (oN (spN (aP A))))) f' a'
  | _ => False
def eX4_spare : En := (tX4_spare, [(83, false, 1, sX4_fresh), (218, false, 1, sX0_callsOfEveryLoop), (73, false, 2, sX1_copy), (221, false, 2, sX1_removeCall), (224, false, 1, sX4_trialEnds)], fdX4, [], 0)
theorem eokX4_spare {g : Gm} (hg : GmOK g) : EnvOK g 6 RX4 cX4_spare (some .int) eX4_spare := ⟨okX4_spare, fun _ _ _ _ h => as2_all (P := fun i v => CallOK g 6 RX4 i v.1 v.2.1 v.2.2) (l := eX4_spare.2.1) ⟨callV_ok (t := 4) hg (mX4_fresh hg) kX4_fresh mlX4_83 qX4_fresh.1 qX4_fresh.2 ⟨by decide, by decide⟩ ⟨_, _, rfl⟩ shX4_fresh, callV_ok (t := 0) hg (mX0_callsOfEveryLoop hg) kX0_callsOfEveryLoop mlX4_218 qX0_callsOfEveryLoop.1 qX0_callsOfEveryLoop.2 ⟨by decide, by decide⟩ ⟨_, _, rfl⟩ shX0_callsOfEveryLoop, callV_ok (t := 1) hg (mX1_copy hg) kX1_copy mlX4_73 qX1_copy.1 qX1_copy.2 ⟨by decide, by decide⟩ ⟨_, _, rfl⟩ shX1_copy, callV_ok (t := 1) hg (mX1_removeCall hg) kX1_removeCall mlX4_221 qX1_removeCall.1 qX1_removeCall.2 ⟨by decide, by decide⟩ ⟨_, _, rfl⟩ shX1_removeCall, callV_ok (t := 4) hg (mX4_trialEnds hg) kX4_trialEnds mlX4_224 qX4_trialEnds.1 qX4_trialEnds.2 ⟨by decide, by decide⟩ ⟨_, _, rfl⟩ shX4_trialEnds, trivial⟩ h, fdX4_ok, (fun _ _ h => by cases h), rfl⟩
theorem first_none {p : Nat → Bool} : ∀ {d i : Nat}, (∀ k, i ≤ k → k < i + d → p k = false) → firstU p d i = none
  | 0, _, _ => rfl
  | d + 1, i, h => by
    unfold firstU
    rw [if_neg (by rw [h i (by omega) (by omega)]; decide)]
    exact first_none (fun k h1 h2 => h k (by omega) (by omega))
theorem rX4_spare (av : List AV) (f : FF) (a : AA) (post : PT) (h : sX4_spare av f a post) (X : XT) (hX : Clo eX4_spare post X) : X 0 (padL 3 (ent av)) [] f a := by
  unfold sX4_spare at h
  split at h
  · obtain ⟨A, hA, hO, h⟩ := h
    have hw := clo_w hO
    have h12 := hO.1.l12
    refine hX [10] 90 _ _ _ _ _ ?_
    refine ⟨A, hA, hO, fun f1 a1 hA1 hG1 hS1 => ⟨clo (aP A), hG1.1, hw, ?_⟩⟩
    have key : ∀ d c f2 a2, c + d = (aP A).2.length → RepC f2 a2 A → S5 f a f2 a2 → (∀ f' a', RepC f' a' A → S5 f a f' a' → post (some (.inl (oN (if endsB (aP A) then none else firstU (fun c => endsB (erP (aP A) c)) d c)))) f' a') → X 10 [some (.inr (.inr (4, 0, 0))), some (.inl (comI (clo (aP A)) (clo (aP A)).length)), some (.inl (nI c))] [] f2 a2 := by
      intro d
      induction d with
      | zero =>
        intro c f2 a2 hcd hA2 hS2 hp
        refine hX [10] 90 _ _ _ _ _ ?_
        refine ⟨fun q => ?_, fun q => ?_⟩
        · refine pI (hp f2 a2 hA2 hS2) ?_
          split <;> rfl
        · have q : ¬ f2 1 0 5 ≤ nI c := q
          rw [hA2.1.2.1] at q
          exact absurd (nI_le (by omega) (by omega)) q
      | succ d ih =>
        intro c f2 a2 hcd hA2 hS2 hp
        have hc : c < (aP A).2.length := by omega
        refine hX [10] 90 _ _ _ _ _ ?_
        refine ⟨fun q => ?_, fun q => ?_⟩
        · have q : f2 1 0 5 ≤ nI c := q
          rw [hA2.1.2.1] at q
          exact absurd q (nI_ge hc (by omega))
        · have skip : ∀ f3 a3, RepC f3 a3 A → S5 f a f3 a3 → (endsB (aP A) = false → endsB (erP (aP A) c) = false) → X 10 [some (.inr (.inr (4, 0, 0))), some (.inl (comI (clo (aP A)) (clo (aP A)).length)), some (.inl (nI c + 1))] [] f3 a3 := by
            intro f3 a3 hA3 hS3 he
            rw [← nI_succ]
            refine ih (c + 1) f3 a3 (by omega) hA3 hS3 (fun f' a' h1 h2 => pI (hp f' a' h1 h2) ?_)
            cases hb : endsB (aP A) with
            | true => rfl
            | false =>
              simp [firstU, he hb]
          refine ⟨fun q1 => ?_, fun q1 => ?_⟩
          · have q1 := (zb_bt _ (show c < 32 by omega)).mp q1
            refine skip f2 a2 hA2 hS2 (fun he => decide_eq_false ?_)
            rcases comI_bit (show c < 32 by omega) _ q1 with z | ⟨g, z1, z2, z3⟩
            · exact absurd z (of_decide_eq_false he)
            · exact loop_without hO.1 hc z1 z2 z3 (okK_P (hO.1.er hc)) (fun j hj hn => Bk_er hc hj hn)
          · refine ⟨by decide, fun f3 a3 hF3 hR3 hB3 => ?_⟩
            have hR3 := hR3 (aP A) hO.1 hA2.1
            have hB3 := hB3 (hA2.2.2.2.2.2.2 0 (by decide))
            have T3 := hA2.trial hF3 hB3
            refine ⟨aP A, c, hR3, hO.1, rfl, hc, fun f4 a4 hF4 hR4 h40 => ?_⟩
            have T4 := T3.1.trial hF4 (fun i hi => by rw [h40]; exact hB3 i hi)
            refine ⟨erP (aP A) c, hR4, hO.1.er hc, fun f5 a5 g1 g2 g3 g4 => ?_⟩
            have T5 := T4.1.stl g1 g2 g3 g4
            have S := ((hS2.tr T3.2).tr T4.2).tr T5.2
            refine ⟨fun q2 => ?_, fun q2 => ?_⟩
            · exact skip f5 a5 T5.1 S (fun _ => b2i_e0.mp q2)
            · have q2 : endsB (erP (aP A) c) = true := b2i_n0.mp q2
              refine pI (hp f5 a5 T5.1 S) ?_
              have hb : endsB (aP A) = false := by
                cases hb : endsB (aP A) with
                | false => rfl
                | true =>
                  have hb := of_decide_eq_true hb
                  exfalso
                  apply q1
                  refine (zb_bt _ (show c < 32 by omega)).mpr ?_
                  have : ∀ n, bt (comI (clo (aP A)) n) c = false := by
                    intro n
                    induction n with
                    | zero => rw [comI, if_pos hb, b_0]
                    | succ n ihn =>
                      rw [comI]
                      split
                      · rw [b_and, ihn, Bool.false_and]
                      · exact ihn
                  exact this _
              simp [hb, firstU, q2, oN]
    exact key (aP A).2.length 0 f1 a1 (by omega) hA1 hS1 h
  · exact h.elim
theorem shX4_spare : ∀ As f a Q, sX4_spare As f a Q → ∃ i r, As = .inr (.inr (4, i, 0)) :: r := by
  intro As f a Q h
  unfold sX4_spare at h
  split at h
  · exact ⟨_, _, rfl⟩
  · exact h.elim
theorem mX4_spare {g : Gm} (hg : GmOK g) : MetC g yX4_spare cX4_spare 3 (some .int) 6 sX4_spare := by
  refine MetC_of hg eX4_spare (eokX4_spare hg) (by decide +kernel) (fun av f a post h => ?_) rX4_spare
  unfold sX4_spare at h
  split at h
  · exact Nat.le_of_ble_eq_true rfl
  · exact h.elim
/-- the least place at which an argument that falls lets all end -/
def mnB (P : Pg) (n : Nat) : Bool := takesB P (nI (n / 100)) (nI (n / 10 % 10)) (nI (101 + 10 * (n % 10))) && endsB (setA P (n / 100) (n / 10 % 10) (101 + 10 * (n % 10)))
def mnN (P : Pg) : Option Nat := if endsB P then none else firstU (mnB P) (100 * P.2.length) 0
def sX4_mend : SP := fun As f a Q => match As with
  | [.inr (.inr (4, 0, 0))] => ∃ A, RepC f a A ∧ OKA A ∧ ∀ f' a', RepC f' a' A → S5 f a f' a' → Q (some (.inl (oN (mnN (aP A))))) f' a'
  | _ => False
def eX4_mend : En := (tX4_mend, [(83, false, 1, sX4_fresh), (218, false, 1, sX0_callsOfEveryLoop), (228, true, 3, sX4_argumentOf), (210, false, 4, sX1_takes), (73, false, 2, sX1_copy), (214, false, 4, sX1_putArgument), (224, false, 1, sX4_trialEnds)], fdX4, [], 0)
theorem eokX4_mend {g : Gm} (hg : GmOK g) : EnvOK g 6 RX4 cX4_mend (some .int) eX4_mend := ⟨okX4_mend, fun _ _ _ _ h => as2_all (P := fun i v => CallOK g 6 RX4 i v.1 v.2.1 v.2.2) (l := eX4_mend.2.1) ⟨callV_ok (t := 4) hg (mX4_fresh hg) kX4_fresh mlX4_83 qX4_fresh.1 qX4_fresh.2 ⟨by decide, by decide⟩ ⟨_, _, rfl⟩ shX4_fresh, callV_ok (t := 0) hg (mX0_callsOfEveryLoop hg) kX0_callsOfEveryLoop mlX4_218 qX0_callsOfEveryLoop.1 qX0_callsOfEveryLoop.2 ⟨by decide, by decide⟩ ⟨_, _, rfl⟩ shX0_callsOfEveryLoop, callS_ok hg (mX4_argumentOf hg) kX4_argumentOf mlX4_228 qX4_argumentOf ⟨by decide, by decide⟩, callV_ok (t := 1) hg (mX1_takes hg) kX1_takes mlX4_210 qX1_takes.1 qX1_takes.2 ⟨by decide, by decide⟩ ⟨_, _, rfl⟩ shX1_takes, callV_ok (t := 1) hg (mX1_copy hg) kX1_copy mlX4_73 qX1_copy.1 qX1_copy.2 ⟨by decide, by decide⟩ ⟨_, _, rfl⟩ shX1_copy, callV_ok (t := 1) hg (mX1_putArgument hg) kX1_putArgument mlX4_214 qX1_putArgument.1 qX1_putArgument.2 ⟨by decide, by decide⟩ ⟨_, _, rfl⟩ shX1_putArgument, callV_ok (t := 4) hg (mX4_trialEnds hg) kX4_trialEnds mlX4_224 qX4_trialEnds.1 qX4_trialEnds.2 ⟨by decide, by decide⟩ ⟨_, _, rfl⟩ shX4_trialEnds, trivial⟩ h, fdX4_ok, (fun _ _ h => by cases h), rfl⟩
theorem kf_set {P : Pg} {c k x j : Nat} (hc : c < P.2.length) (hk : k < 2) (hj : j ≠ c) : kf (setA P c k x) j = kf P j := by
  have e0 : cl (setA P c k x) j = cl P j := by rw [cl_setA hc, if_neg hj]
  have ea : ∀ i, ar (setA P c k x) i = ar P i := fun i => rfl
  simp only [kf, codeN, relM, rel, fr, to, ag, e0, ea]
  rfl
theorem rX4_mend (av : List AV) (f : FF) (a : AA) (post : PT) (h : sX4_mend av f a post) (X : XT) (hX : Clo eX4_mend post X) : X 0 (padL 6 (ent av)) [] f a := by
  unfold sX4_mend at h
  split at h
  · obtain ⟨A, hA, hO, h⟩ := h
    have hw := clo_w hO
    have h12 := hO.1.l12
    refine hX [10] 90 _ _ _ _ _ ?_
    refine ⟨A, hA, hO, fun f1 a1 hA1 hG1 hS1 => ⟨clo (aP A), hG1.1, hw, ?_⟩⟩
    have key : ∀ d n f2 a2 z3 z4 z5, n + d = 100 * (aP A).2.length → RepC f2 a2 A → S5 f a f2 a2 → (∀ f' a', RepC f' a' A → S5 f a f' a' → post (some (.inl (oN (if endsB (aP A) then none else firstU (mnB (aP A)) d n)))) f' a') → X 10 [some (.inr (.inr (4, 0, 0))), some (.inl (comI (clo (aP A)) (clo (aP A)).length)), some (.inl (nI n)), z3, z4, z5] [] f2 a2 := by
      intro d
      induction d with
      | zero =>
        intro n f2 a2 z3 z4 z5 hcd hA2 hS2 hp
        refine hX [10] 90 _ _ _ _ _ ?_
        refine ⟨fun q => ?_, fun q => ?_⟩
        · refine pI (hp f2 a2 hA2 hS2) ?_
          split <;> rfl
        · have q : ¬ 100 * f2 1 0 5 ≤ nI n := q
          rw [hA2.1.2.1, show (100 : Int32) = nI 100 from rfl, pk_mul] at q
          exact absurd (nI_le (by omega) (by omega)) q
      | succ d ih =>
        intro n f2 a2 z3 z4 z5 hcd hA2 hS2 hp
        have hn : n < 100 * (aP A).2.length := by omega
        have hc : n / 100 < (aP A).2.length := by omega
        have ec : nI n / 100 = nI (n / 100) := pk_div (d := 100) (by omega) (by decide) (by decide)
        have ek0 : nI n / 10 = nI (n / 10) := pk_div (d := 10) (by omega) (by decide) (by decide)
        have ek : nI n / 10 - nI n / 10 / 10 * 10 = nI (n / 10 % 10) := by
          rw [ek0]
          exact pk_rem (d := 10) (by omega) (by decide) (by decide)
        have ev : nI n - nI n / 10 * 10 = nI (n % 10) := pk_rem (d := 10) (by omega) (by decide) (by decide)
        have ex : 100 * 1 + 10 * nI (n % 10) + 1 = nI (101 + 10 * (n % 10)) := by
          rw [show (10 : Int32) = nI 10 from rfl, pk_mul, show (100 * 1 : Int32) = nI 100 from rfl, nI_add, show (1 : Int32) = nI 1 from rfl, nI_add]
          congr 1
          omega
        refine hX [10, 47] 90 _ _ _ _ _ ?_
        refine ⟨fun q => ?_, fun q => ?_⟩
        · have q : 100 * f2 1 0 5 ≤ nI n := q
          rw [hA2.1.2.1, show (100 : Int32) = nI 100 from rfl, pk_mul] at q
          exact absurd q (nI_ge hn (by omega))
        · refine ⟨by decide, by decide, by decide, by decide, ?_⟩
          dsimp only
          rw [ec, ek, ev]
          have skip : ∀ f3 a3, RepC f3 a3 A → S5 f a f3 a3 → (endsB (aP A) = false → mnB (aP A) n = false) → X 10 [some (.inr (.inr (4, 0, 0))), some (.inl (comI (clo (aP A)) (clo (aP A)).length)), some (.inl (nI n + 1)), some (.inl (nI (n / 100))), some (.inl (nI (n / 10 % 10))), some (.inl (nI (101 + 10 * (n % 10))))] [] f3 a3 := by
            intro f3 a3 hA3 hS3 he
            rw [← nI_succ]
            refine ih (n + 1) f3 a3 _ _ _ (by omega) hA3 hS3 (fun f' a' h1 h2 => pI (hp f' a' h1 h2) ?_)
            cases hb : endsB (aP A) with
            | true => rfl
            | false =>
              simp [firstU, he hb]
          suffices k47 : X 47 [some (.inr (.inr (4, 0, 0))), some (.inl (comI (clo (aP A)) (clo (aP A)).length)), some (.inl (nI n)), some (.inl (nI (n / 100))), some (.inl (nI (n / 10 % 10))), z5] [.inl (nI (101 + 10 * (n % 10)))] f2 a2 by
            rw [← ex] at k47
            exact k47
          refine hX [10] 90 _ _ _ _ _ ?_
          refine ⟨fun q1 => ?_, fun q1 => ?_⟩
          · have q1 := (zb_bt _ (show n / 100 < 32 by omega)).mp q1
            refine skip f2 a2 hA2 hS2 (fun he => ?_)
            unfold mnB
            cases ht : takesB (aP A) (nI (n / 100)) (nI (n / 10 % 10)) (nI (101 + 10 * (n % 10))) with
            | false => rfl
            | true =>
              obtain ⟨c', k', y', e1, hc', e2, hk', e3, hy', hok⟩ := takes_spec hO.1 ht
              have e1 := (nI_eq (by omega) (by omega)).mp e1
              have hat := hO.1.ar_to hc'
              have e2 := (nI_eq (by omega) (by omega)).mp e2
              have e3 := (nI_eq (by omega) (by omega)).mp e3
              rw [Bool.true_and]
              refine decide_eq_false ?_
              rcases comI_bit (show n / 100 < 32 by omega) _ q1 with z | ⟨g, z1, z2, z3⟩
              · exact absurd z (of_decide_eq_false he)
              · have hW' := hO.1.stA (x := 101 + 10 * (n % 10)) hc (show n / 10 % 10 < ar (aP A) (to (aP A) (n / 100)) by rw [e1, e2]; exact hk') (by rw [e3, e1]; exact hok)
                exact loop_without hO.1 hc z1 z2 z3 (okK_P hW') (fun j hj hn => ⟨j, by rw [len_setA]; exact hj, rfl, kf_set hc (by rw [e2]; omega) hn⟩)
          · refine ⟨aP A, hA2.1, hO.1, fun q2 => ?_, fun q2 => ?_⟩
            · exact skip f2 a2 hA2 hS2 (fun _ => by unfold mnB; rw [b2i_e0.mp q2, Bool.false_and])
            · have q2 := b2i_n0.mp q2
              obtain ⟨c', k', y', e1, hc', e2, hk', e3, hy', hok⟩ := takes_spec hO.1 q2
              have e1 := (nI_eq (by omega) (by omega)).mp e1
              have hat := hO.1.ar_to hc'
              have e2 := (nI_eq (by omega) (by omega)).mp e2
              have e3 := (nI_eq (by omega) (by omega)).mp e3
              have hk2 : n / 10 % 10 < ar (aP A) (to (aP A) (n / 100)) := by rw [e1, e2]; exact hk'
              have hk3 : n / 10 % 10 < 2 := by rw [e2]; omega
              have hW' := hO.1.stA (x := 101 + 10 * (n % 10)) hc hk2 (by rw [e3, e1]; exact hok)
              refine ⟨by decide, fun f3 a3 hF3 hR3 hB3 => ?_⟩
              have hR3 := hR3 (aP A) hO.1 hA2.1
              have hB3 := hB3 (hA2.2.2.2.2.2.2 0 (by decide))
              have T3 := hA2.trial hF3 hB3
              refine ⟨n / 100, n / 10 % 10, rfl, rfl, by omega, ?_⟩
              have T4 := T3.1.trial ((Fr.rf f3 a3 1 1).ua 3 (2 * (n / 100) + n / 10 % 10) (nI (101 + 10 * (n % 10)))) (fun i hi => by rw [upa_s, if_neg (by decide)]; exact hB3 i hi)
              refine ⟨setA (aP A) (n / 100) (n / 10 % 10) (101 + 10 * (n % 10)), hR3.stA hc hk3, hW', fun f5 a5 g1 g2 g3 g4 => ?_⟩
              have T5 := T4.1.stl g1 g2 g3 g4
              have S := ((hS2.tr T3.2).tr T4.2).tr T5.2
              refine ⟨fun q3 => ?_, fun q3 => ?_⟩
              · refine skip f5 a5 T5.1 S (fun _ => ?_)
                unfold mnB
                rw [show endsB _ = false from b2i_e0.mp q3, Bool.and_false]
              · have q3 : endsB (setA (aP A) (n / 100) (n / 10 % 10) (101 + 10 * (n % 10))) = true := b2i_n0.mp q3
                refine pI (hp f5 a5 T5.1 S) ?_
                have hb : endsB (aP A) = false := by
                  cases hb : endsB (aP A) with
                  | false => rfl
                  | true =>
                    have hb := of_decide_eq_true hb
                    exfalso
                    apply q1
                    refine (zb_bt _ (show n / 100 < 32 by omega)).mpr ?_
                    have : ∀ m, bt (comI (clo (aP A)) m) (n / 100) = false := by
                      intro m
                      induction m with
                      | zero => rw [comI, if_pos hb, b_0]
                      | succ m ihn =>
                        rw [comI]
                        split
                        · rw [b_and, ihn, Bool.false_and]
                        · exact ihn
                    exact this _
                have hm : mnB (aP A) n = true := by unfold mnB; rw [q2, q3]; rfl
                simp [hb, firstU, hm, oN]
    exact key (100 * (aP A).2.length) 0 f1 a1 none none none (by omega) hA1 hS1 h
  · exact h.elim
theorem shX4_mend : ∀ As f a Q, sX4_mend As f a Q → ∃ i r, As = .inr (.inr (4, i, 0)) :: r := by
  intro As f a Q h
  unfold sX4_mend at h
  split at h
  · exact ⟨_, _, rfl⟩
  · exact h.elim
theorem mX4_mend {g : Gm} (hg : GmOK g) : MetC g yX4_mend cX4_mend 6 (some .int) 6 sX4_mend := by
  refine MetC_of hg eX4_mend (eokX4_mend hg) (by decide +kernel) (fun av f a post h => ?_) rX4_mend
  unfold sX4_mend at h
  split at h
  · exact Nat.le_of_ble_eq_true rfl
  · exact h.elim
