/-! the whole text -/
theorem nI_ex (x : Int32) : ∃ n, x = nI n := ⟨x.toBitVec.toNat, Int32.toBitVec_inj.mp (by
  show _ = BitVec.ofNat 32 _
  rw [BitVec.ofNat_toNat]
  simp)⟩
def telN (T : List Nat) : Nat → Lx → Pg → Lx × Pg
  | 0, σ, P => (σ, P)
  | n + 1, σ, P => if σ.2.2.2 = 0 then (σ, P) else telN T n (lnN T σ P).1 (lnN T σ P).2
def linN (T : List Nat) : Nat → Lx → Pg → Nat
  | 0, _, _ => 0
  | n + 1, σ, P => if σ.2.2.2 = 0 then 0 else 1 + linN T n (lnN T σ P).1 (lnN T σ P).2
def txS (T : List Nat) : Lx := stepN T (0, 0, 0, 0)
def sX3_tell : SP := fun As f a Q => match As with
  | [.inr (.inr (3, 0, 0)), .inr (.inr (1, 1, 0))] => ∃ T, TP (f 3 0) (a 3 0) T ∧ OKT T ∧ RC (f 1 1) (a 1 1) ([], []) ∧ AB (a 1 1) ∧ ∀ f' a', FD f a f' a' → LT f' a' T (telN T 16 (txS T) ([], [])).1 → DR f' a' (telN T 16 (txS T) ([], [])).2 (telN T 16 (txS T) ([], [])).1 → Q (some (.inl (nI (linN T 16 (txS T) ([], []))))) f' a'
  | _ => False
def eX3_tell : En := (tX3_tell, [(22, false, 1, sX3_step), (30, false, 2, sX3_isName), (34, false, 2, sX3_tellFunction), (40, false, 2, sX3_tellCall), (43, false, 2, sX3_refuse)], fdX3, [(28, .inr (.inr (9, 0, 0))), (38, .inr (.inr (9, 1, 0)))], 0)
theorem eokX3_tell {g : Gm} (hg : GmOK g) : EnvOK g 9 RX3 cX3_tell (some .int) eX3_tell := ⟨okX3_tell, fun _ _ _ _ h => as2_all (P := fun i v => CallOK g 9 RX3 i v.1 v.2.1 v.2.2) (l := eX3_tell.2.1) ⟨callV_ok (t := 3) hg (mX3_step hg) kX3_step mlX3_22 qX3_step.1 qX3_step.2 ⟨by decide, by decide⟩ ⟨_, _, rfl⟩ shX3_step, callV_ok (t := 3) hg (mX3_isName hg) kX3_isName mlX3_30 qX3_isName.1 qX3_isName.2 ⟨by decide, by decide⟩ ⟨_, _, rfl⟩ shX3_isName, callV_ok (t := 3) hg (mX3_tellFunction hg) kX3_tellFunction mlX3_34 qX3_tellFunction.1 qX3_tellFunction.2 ⟨by decide, by decide⟩ ⟨_, _, rfl⟩ shX3_tellFunction, callV_ok (t := 3) hg (mX3_tellCall hg) kX3_tellCall mlX3_40 qX3_tellCall.1 qX3_tellCall.2 ⟨by decide, by decide⟩ ⟨_, _, rfl⟩ shX3_tellCall, callV_ok (t := 3) hg (mX3_refuse hg) kX3_refuse mlX3_43 qX3_refuse.1 qX3_refuse.2 ⟨by decide, by decide⟩ ⟨_, _, rfl⟩ shX3_refuse, trivial⟩ h, fdX3_ok, fun _ _ h => as2_all (P := fun i v => CstOK g RX3 i v ∧ vld v) (l := eX3_tell.2.2.2.1) ⟨cstX3_28 hg, cstX3_38 hg, trivial⟩ h, rfl⟩
theorem rX3_tell (av : List AV) (f : FF) (a : AA) (post : PT) (h : sX3_tell av f a post) (X : XT) (hX : Clo eX3_tell post X) : X 0 (padL 3 (ent av)) [] f a := by
  unfold sX3_tell at h
  split at h
  · obtain ⟨T, hT, hO, hR, hB, h⟩ := h
    obtain ⟨R0, eR⟩ : ∃ R0, R0 = telN T 16 (txS T) ([], []) := ⟨_, rfl⟩
    obtain ⟨N0, eN⟩ : ∃ N0, N0 = linN T 16 (txS T) ([], []) := ⟨_, rfl⟩
    rw [← eR, ← eN] at h
    have key : ∀ d m σ P f1 a1, m + d = 16 → FD f a f1 a1 → LT f1 a1 T σ → DR f1 a1 P σ → R0 = telN T d σ P → N0 = m + linN T d σ P → X 16 [some (.inr (.inr (3, 0, 0))), some (.inr (.inr (1, 1, 0))), some (.inl (nI m))] [] f1 a1 := by
      intro d
      induction d with
      | zero =>
        intro m σ P f1 a1 hm hF hL hD et el
        have hm : m = 16 := by omega
        subst hm
        refine hX [] 40 _ _ _ _ _ ?_
        refine ⟨fun _ => ?_, fun q => absurd (by decide) q⟩
        rw [et, el] at h
        exact h f1 a1 hF hL hD
      | succ d ih =>
        intro m σ P f1 a1 hm hF hL hD et el
        unfold telN at et
        unfold linN at el
        have hk := hL.k (n := 0) (by decide) rfl
        refine hX [68] 60 _ _ _ _ _ ?_
        refine ⟨fun q => absurd ((i_lt (show (15 : Int32) = nI 15 from rfl) rfl (by decide) (by omega)).mp q) (by omega), fun _ => ⟨fun q => ?_, fun q => ?_⟩⟩
        · have q := hk.mp q
          rw [if_pos q] at et el
          rw [et, el] at h
          exact h f1 a1 hF hL hD
        · have q : ¬ σ.2.2.2 = 0 := fun z => q (hk.mpr z)
          rw [if_neg q] at et el
          have h0 := (hL.2.2.2.2.2.2.2.1 q).1
          have nx : ∀ f2 a2, FD f a f2 a2 → LT f2 a2 T (lnN T σ P).1 → DR f2 a2 (lnN T σ P).2 (lnN T σ P).1 → X 68 [some (.inr (.inr (3, 0, 0))), some (.inr (.inr (1, 1, 0))), some (.inl (nI m))] [] f2 a2 := fun f2 a2 hF2 hL2 hD2 => by
            refine hX [16] 20 _ _ _ _ _ ?_
            have := ih (m + 1) _ _ f2 a2 (by omega) hF2 hL2 hD2 et (by rw [el]; omega)
            rw [← nI_1] at this
            exact this
          unfold lnN at nx
          refine ⟨T, σ, by decide, hL, ⟨fun q1 => ?_, fun q1 => ?_⟩⟩
          · have q1 : ¬ nmB T σ 0 = true := by rw [b2i_e0.mp q1]; decide
            simp only [if_neg q1] at nx
            refine ⟨T, σ, by decide, hL, ⟨fun q2 => ?_, fun q2 => ?_⟩⟩
            · have q2 : ¬ nmB T σ 1 = true := by rw [b2i_e0.mp q2]; decide
              simp only [if_neg q2] at nx
              exact ⟨2, σ, rfl, hL.2.2.1, hL.2.2.2.1, fun f2 hF2 h2 => nx f2 a1 (hF.f3 hF2) (hL.ref (by decide) hF2 h2) (hD.f3 hF2 (fun _ => h0))⟩
            · have q2 := b2i_n0.mp q2
              simp only [if_pos q2] at nx
              exact ⟨T, σ, P, hL, h0, hD, fun f2 a2 hF2 hL2 hD2 => nx f2 a2 (hF.tr hF2) hL2 hD2⟩
          · have q1 := b2i_n0.mp q1
            simp only [if_pos q1] at nx
            exact ⟨T, σ, P, hL, h0, hD, fun f2 a2 hF2 hL2 hD2 => nx f2 a2 (hF.tr hF2) hL2 hD2⟩
    obtain ⟨s, es⟩ := nI_ex (f 3 0 3)
    obtain ⟨k, ek⟩ := nI_ex (f 3 0 5)
    refine hX [16] 40 _ _ _ _ _ ?_
    have F0 : F3 f (upf (upf f 3 0 2 0) 3 0 4 0) := ((F3.rf f).up 2 (by decide) 0).up 4 (by decide) 0
    have l0 : LOK0 T (0, s, 0, k) := ⟨by show 0 < 10; decide, Nat.zero_le _⟩
    have ex : stepN T (0, s, 0, k) = txS T := rfl
    refine ⟨T, (0, s, 0, k), F0.tp hT, hO, ⟨rfl, es, rfl, ek⟩, l0, fun f1 hF1 h1 => ?_⟩
    have hk := l0.step rfl
    rw [ex] at hk h1
    have hF := F0.tr hF1
    refine key 16 0 (txS T) ([], []) f1 a rfl ((FD.rf f a).f3 hF) ⟨hF.tp hT, hO, h1, hk⟩ ⟨hB, ⟨0, 0, by rw [hF.o (by decide)]; exact hR.1, by decide, by rw [hF.o (by decide)]; exact hR.2.1, by decide⟩, fun _ => ⟨by rw [hF.o (by decide)]; exact hR, ?_⟩⟩ eR (by rw [eN, Nat.zero_add])
    exact ⟨by decide, by decide, fun i hi => absurd hi (Nat.not_lt_zero i), fun i hi => absurd hi (Nat.not_lt_zero i)⟩
  · exact h.elim
theorem shX3_tell : ∀ As f a Q, sX3_tell As f a Q → ∃ i r, As = .inr (.inr (3, i, 0)) :: r := by
  intro As f a Q h
  unfold sX3_tell at h
  split at h
  · exact ⟨_, _, rfl⟩
  · exact h.elim
theorem mX3_tell {g : Gm} (hg : GmOK g) : MetC g yX3_tell cX3_tell 3 (some .int) 9 sX3_tell := by
  refine MetC_of hg eX3_tell (eokX3_tell hg) (by decide +kernel) (fun av f a post h => ?_) rX3_tell
  unfold sX3_tell at h
  split at h
  · exact Nat.le_of_ble_eq_true rfl
  · exact h.elim
def txR (T : List Nat) : Lx × Pg := telN T 16 (txS T) ([], [])
def anText (A : Ab) : Int32 := if (txR (aT A)).1.1 = 0 then nI (linN (aT A) 16 (txS (aT A)) ([], [])) else -10 - nI (txR (aT A)).1.2.1
def nxText (A : Ab) : Ab := if (txR (aT A)).1.1 = 0 then ((txR (aT A)).2, [], 0, fun _ => none, A.2.2.2.2) else (aP A, [], (txR (aT A)).1.1, A.2.2.2)
def sX4_text : SP := fun As f a Q => match As with
  | [.inr (.inr (4, 0, 0))] => ∃ A, RepC f a A ∧ OKA A ∧ ∀ f' a', RepC f' a' (nxText A) → S5 f a f' a' → Q (some (.inl (anText A))) f' a'
  | _ => False
def eX4_text : En := (tX4_text, [(60, false, 1, sX1_clear), (63, false, 2, sX3_tell), (73, false, 2, sX1_copy)], fdX4, [], 0)
theorem eokX4_text {g : Gm} (hg : GmOK g) : EnvOK g 10 RX4 cX4_text (some .int) eX4_text := ⟨okX4_text, fun _ _ _ _ h => as2_all (P := fun i v => CallOK g 10 RX4 i v.1 v.2.1 v.2.2) (l := eX4_text.2.1) ⟨callV_ok (t := 1) hg (mX1_clear hg) kX1_clear mlX4_60 qX1_clear.1 qX1_clear.2 ⟨by decide, by decide⟩ ⟨_, _, rfl⟩ shX1_clear, callV_ok (t := 3) hg (mX3_tell hg) kX3_tell mlX4_63 qX3_tell.1 qX3_tell.2 ⟨by decide, by decide⟩ ⟨_, _, rfl⟩ shX3_tell, callV_ok (t := 1) hg (mX1_copy hg) kX1_copy mlX4_73 qX1_copy.1 qX1_copy.2 ⟨by decide, by decide⟩ ⟨_, _, rfl⟩ shX1_copy, trivial⟩ h, fdX4_ok, (fun _ _ h => by cases h), rfl⟩
theorem RepC.told3 {f f' : FF} {a a' : AA} {A : Ab} (h : RepC f a A) (e1 : ∀ t i, ¬ (t = 1 ∧ i = 1) → ¬ (t = 3 ∧ i = 0) → f' t i = f t i) (e2 : ∀ t i, ¬ (t = 1 ∧ i = 1) → a' t i = a t i) {ft : Nat} (ht : tlC (f' 3 0) (a' 3 0) [] ft) (hB : AB (a' 1 1)) : RepC f' a' (aP A, [], ft, A.2.2.2) ∧ S5 f a f' a' := by
  refine ⟨⟨?_, ht, ?_, ?_, ?_, ?_, ?_⟩, e1 5 0 (by decide) (by decide), e2 5 0 (by decide)⟩
  · rw [e1 1 0 (by decide) (by decide), e2 1 0 (by decide)]
    exact h.1
  · intro k hk
    rw [e1 1 (2 + k) (by omega) (by omega), e2 1 (2 + k) (by omega), e2 4 0 (by decide)]
    exact h.2.2.1 k hk
  · intro k hk
    rw [e1 2 k (fun q => absurd q.1 (by decide)) (fun q => absurd q.1 (by decide)), e2 2 k (fun q => absurd q.1 (by decide))]
    exact h.2.2.2.1 k hk
  · rw [e1 4 0 (by decide) (by decide)]
    exact h.2.2.2.2.1
  · unfold stC
    rw [e1 4 0 (by decide) (by decide), e1 0 0 (by decide) (by decide), e2 0 0 (by decide)]
    exact h.2.2.2.2.2.1
  · intro p hp
    by_cases z : p = 1
    · rw [z]
      exact hB
    · rw [e2 1 p (fun q => z q.2)]
      exact h.2.2.2.2.2.2 p hp
theorem RepC.img0 {f : FF} {a a' : AA} {A : Ab} (h : RepC f a A) (h7 : f 4 0 7 = 1) (e2 : ∀ t i, ¬ (t = 4 ∧ i = 0) → a' t i = a t i) (e0 : a' 4 0 5 0 = 0) (e1 : a' 4 0 5 1 = 0) : RepC f a' (aP A, aT A, aFt A, (fun _ => none), A.2.2.2.2) ∧ S5 f a f a' := by
  refine ⟨⟨?_, ?_, ?_, ?_, h.2.2.2.2.1, Or.inl h7, ?_⟩, rfl, e2 5 0 (by decide)⟩
  · rw [e2 1 0 (by decide)]
    exact h.1
  · rw [e2 3 0 (by decide)]
    exact h.2.1
  · intro k hk
    refine ⟨?_, fun P z => by cases z⟩
    rcases (show k = 0 ∨ k = 1 by omega) with rfl | rfl
    · exact e0
    · exact e1
  · intro k hk
    rw [e2 2 k (fun q => absurd q.1 (by decide))]
    exact h.2.2.2.1 k hk
  · intro p hp
    rw [e2 1 p (fun q => absurd q.1 (by decide))]
    exact h.2.2.2.2.2.2 p hp
theorem rX4_text (av : List AV) (f : FF) (a : AA) (post : PT) (h : sX4_text av f a post) (X : XT) (hX : Clo eX4_text post X) : X 0 (padL 3 (ent av)) [] f a := by
  unfold sX4_text at h
  split at h
  · obtain ⟨A, hA, hO, h⟩ := h
    have hOT : OKT (aT A) := hO.2.1
    unfold anText nxText txR at h
    obtain ⟨R0, eR⟩ : ∃ R0, R0 = telN (aT A) 16 (txS (aT A)) ([], []) := ⟨_, rfl⟩
    obtain ⟨N0, eN⟩ : ∃ N0, N0 = linN (aT A) 16 (txS (aT A)) ([], []) := ⟨_, rfl⟩
    rw [← eR, ← eN] at h
    refine hX [66] 60 _ _ _ _ _ ?_
    refine ⟨aT A, ⟨hA.2.1.1, hA.2.1.2.1⟩, hOT, ⟨rfl, rfl, fun i hi => absurd hi (Nat.not_lt_zero i), fun i hi => absurd hi (Nat.not_lt_zero i)⟩, hA.2.2.2.2.2.2 1 (by decide), fun f1 a1 hF hL hD => ?_⟩
    rw [← eR] at hL hD
    rw [← eN]
    have g1 : ∀ t i, ¬ (t = 1 ∧ i = 1) → ¬ (t = 3 ∧ i = 0) → upf f1 3 0 1 0 t i = f t i := fun t i p q => by
      rw [upf_o _ _ q]
      funext k
      rw [hF.1 t i k p (fun z => q ⟨z.1, z.2.1⟩), upf_o _ _ p, upf_o _ _ p]
    have hz : f1 3 0 2 = 0 ↔ R0.1.1 = 0 := i_eq hL.2.2.1.1 (show (0 : Int32) = nI 0 from rfl) (by have := hL.2.2.2.1; omega) (by decide)
    have K := hA.told3 (f' := upf f1 3 0 1 0) (a' := a1) g1 hF.2 (ft := R0.1.1) ⟨rfl, fun i hi => absurd hi (Nat.not_lt_zero i), hL.2.2.1.1⟩ hD.1
    refine ⟨fun d => ?_, fun d => ?_⟩
    · have d : R0.1.1 = 0 := hz.mp d
      simp only [if_pos d] at h
      obtain ⟨hR, hW⟩ := hD.2.2 d
      refine ⟨by decide, fun f2 a2 hF2 hC hB => ?_⟩
      have hC := hC R0.2 hW (by rw [upf_o _ _ (by decide)]; exact hR)
      have hB := hB hD.1
      have K2 := K.1.told hF2 hC hB
      refine ⟨Or.inr rfl, ?_⟩
      have fin : ∀ a3, (∀ t i, ¬ (t = 4 ∧ i = 0) → a3 t i = a2 t i) → a3 4 0 5 0 = 0 → a3 4 0 5 1 = 0 → post (some (.inl (nI N0))) (upf f2 4 0 7 1) a3 := fun a3 p q r => by
        have K3 := K2.1.img0 (a' := a3) (by rw [upf_s, if_pos rfl]) p q r
        have K4 : RepC (upf f2 4 0 7 1) a3 (R0.2, [], R0.1.1, (fun _ => none), A.2.2.2.2) := K3.1
        rw [d] at K4
        exact h _ _ K4 ((K.2.tr K2.2).tr K3.2)
      show X 66 [some (.inr (.inr (4, 0, 0))), some (.inl (nI N0)), some (.inl (nI 0))] [] (upf f2 4 0 7 1) a2
      refine hX [] 90 _ _ _ _ _ ?_
      refine ⟨fun q => absurd q (by decide), fun _ => ⟨inA 2 (n := 0) rfl rfl (by decide) (by decide), ⟨fun q => absurd q (by decide), fun _ => ⟨inA 2 (n := 1) rfl rfl (by decide) (by decide), ⟨fun _ => ?_, fun q => absurd (by decide) q⟩⟩⟩⟩⟩
      refine fin _ (fun t i p => ?_) ?_ ?_
      · rw [upa_o _ _ p, upa_o _ _ p]
      · rw [upa_s, if_pos rfl, upd_s]
        rfl
      · rw [upa_s, if_pos rfl, upd_s]
        rfl
    · have d : ¬ R0.1.1 = 0 := fun z => d (hz.mpr z)
      simp only [if_neg d] at h
      exact pI (h _ _ K.1 K.2) (by show -10 - nI R0.1.2.1 = -10 - f1 3 0 3; rw [hL.2.2.1.2.1])
  · exact h.elim
theorem shX4_text : ∀ As f a Q, sX4_text As f a Q → ∃ i r, As = .inr (.inr (4, i, 0)) :: r := by
  intro As f a Q h
  unfold sX4_text at h
  split at h
  · exact ⟨_, _, rfl⟩
  · exact h.elim
theorem mX4_text {g : Gm} (hg : GmOK g) : MetC g yX4_text cX4_text 3 (some .int) 10 sX4_text := by
  refine MetC_of hg eX4_text (eokX4_text hg) (by decide +kernel) (fun av f a post h => ?_) rX4_text
  unfold sX4_text at h
  split at h
  · exact Nat.le_of_ble_eq_true rfl
  · exact h.elim
