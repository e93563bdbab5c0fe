/-! the reference: what is best -/
theorem okA_m : ∀ n, n < 3 → ∀ v, v < n → okA n (101 + 10 * v) = true := by decide
theorem FG.fa {f f' : FF} {a a1 a2 a3 : AA} (h1 : FA 0 a a1) (h2 : FG f a1 f' a2) (h3 : FA 0 a2 a3) (e : a3 5 0 0 = a 5 0 0) : FG f a f' a3 := fun t i k q => by
  refine ⟨(h2 t i k q).1, ?_⟩
  by_cases z : t = 5 ∧ i = 0 ∧ k = 0
  · obtain ⟨rfl, rfl, rfl⟩ := z
    exact e
  · rw [h3 t i k z, (h2 t i k q).2, h1 t i k z]
def sX5_endsIf : SP := fun As f a Q => match As with
  | [.inr (.inr (5, 0, 0)), .inl c, .inl k, .inl x] => ∃ P n j v, RM (a 5 0 0) P ∧ WF P ∧ f 5 0 20 = -4 ∧ c = nI n ∧ n < P.2.length ∧ k = nI j ∧ j < ar P (to P n) ∧ x = nI v ∧ v < ar P (fr P n) ∧ ∀ f' a', FG f a f' a' → Q (some (.inl (b2i (endsB (setA P n j (101 + 10 * v)))))) f' a'
  | _ => False
def eX5_endsIf : En := (tX5_endsIf, [(243, false, 3, sX5_toldOf), (246, false, 4, sX5_argumentBecomes), (204, false, 1, sX5_allEnd)], fdX5, [], 1)
theorem eokX5_endsIf {g : Gm} (hg : GmOK g) : EnvOK g 6 RX5 cX5_endsIf (some .boolean) eX5_endsIf := ⟨okX5_endsIf, fun _ _ _ _ h => as2_all (P := fun i v => CallOK g 6 RX5 i v.1 v.2.1 v.2.2) (l := eX5_endsIf.2.1) ⟨callV_ok (t := 5) hg (mX5_toldOf hg) kX5_toldOf mlX5_243 qX5_toldOf.1 qX5_toldOf.2 ⟨by decide, by decide⟩ ⟨_, _, rfl⟩ shX5_toldOf, callV_ok (t := 5) hg (mX5_argumentBecomes hg) kX5_argumentBecomes mlX5_246 qX5_argumentBecomes.1 qX5_argumentBecomes.2 ⟨by decide, by decide⟩ ⟨_, _, rfl⟩ shX5_argumentBecomes, callV_ok (t := 5) hg (mX5_allEnd hg) kX5_allEnd mlX5_204 qX5_allEnd.1 qX5_allEnd.2 ⟨by decide, by decide⟩ ⟨_, _, rfl⟩ shX5_allEnd, trivial⟩ h, fdX5_ok, (fun _ _ h => by cases h), rfl⟩
theorem rX5_endsIf (av : List AV) (f : FF) (a : AA) (post : PT) (h : sX5_endsIf av f a post) (X : XT) (hX : Clo eX5_endsIf post X) : X 0 (padL 6 (ent av)) [] f a := by
  unfold sX5_endsIf at h
  split at h
  · obtain ⟨P, n, j, v, hR, hW, eo, rfl, hn, rfl, hj, rfl, hv, h⟩ := h
    have n12 := hW.l12
    have n3 := hW.l3
    have hat := hW.ar_to hn
    have haf := hW.ar_fr hn
    have hx := hW.ag_lt (k := j) hn
    have ev : 101 + 10 * nI v = nI (101 + 10 * v) := by rw [show (101 : Int32) = nI 101 from rfl, show (10 : Int32) = nI 10 from rfl, nI_mul, nI_add]
    refine hX [] 60 _ _ _ _ _ ?_
    refine ⟨P, n, j, hR, hW, rfl, rfl, hn, by omega, n, j, 101 + 10 * v, rfl, by omega, rfl, by omega, ev, by omega, fun a1 hF1 hB1 => ?_⟩
    have hR1 := hR.stA hn n12 n3 (by omega) hB1
    have hW1 := hW.stA hn hj (okA_m _ (by omega) v hv)
    refine ⟨setA P n j (101 + 10 * v), none, hR1, hW1, eo, om_no, fun f2 a2 hF2 => ?_⟩
    refine ⟨n, j, ag P n j, rfl, by omega, rfl, by omega, rfl, hx, fun a3 hF3 hB3 => ?_⟩
    have e : a3 5 0 0 = a 5 0 0 := by
      obtain ⟨b0, b1, b2, bw⟩ := hB3
      obtain ⟨-, -, -, cw⟩ := hB1
      obtain ⟨q0, q1, q2⟩ := (hR.2.2.2 n hn).2.2 j (by omega)
      funext m
      by_cases z0 : m = 4 + 8 * n + (2 + 3 * j)
      · rw [z0, b0, q0]
      · by_cases z1 : m = 4 + 8 * n + (2 + 3 * j + 1)
        · rw [z1, b1, q1]
        · by_cases z2 : m = 4 + 8 * n + (2 + 3 * j + 2)
          · rw [z2, b2, q2]
          · rw [bw m z0 z1 z2, (hF2.st (k := 0) (by decide)).2, cw m z0 z1 z2]
    refine pB (h f2 a3 (FG.fa hF1 hF2 hF3 e)) ?_
    unfold endsB
    rw [cloM_none]
  · exact h.elim
theorem shX5_endsIf : ∀ As f a Q, sX5_endsIf As f a Q → ∃ i r, As = .inr (.inr (5, i, 0)) :: r := by
  intro As f a Q h
  unfold sX5_endsIf at h
  split at h
  · exact ⟨_, _, rfl⟩
  · exact h.elim
theorem mX5_endsIf {g : Gm} (hg : GmOK g) : MetC g yX5_endsIf cX5_endsIf 6 (some .boolean) 6 sX5_endsIf := by
  refine MetC_of hg eX5_endsIf (eokX5_endsIf hg) (by decide +kernel) (fun av f a post h => ?_) rX5_endsIf
  unfold sX5_endsIf at h
  split at h
  · exact Nat.le_of_ble_eq_true rfl
  · exact h.elim
theorem cloM_er {P : Pg} (hW : WF P) {c : Nat} (hc : c < P.2.length) : (loopC (cloM P (some c)) = 0) ↔ endsB (erP P c) = true := by
  unfold endsB
  rw [decide_eq_true_eq]
  unfold cloM
  rw [loop_iff (okK_P hW)]
  show _ ↔ loopC (cloG (kf (erP P c)) (fun _ => true) (erP P c).2.length) = 0
  rw [loop_iff (okK_P (hW.er hc))]
  have h1 : ∀ b, Bk (kf P) (actO (some c)) P.2.length b → Bk (kf (erP P c)) (fun _ => true) (erP P c).2.length b := fun b hb => by
    obtain ⟨j, hj, ha, rfl⟩ := hb
    refine Bk_er hc hj (fun z => ?_)
    rw [z] at ha
    simp [actO] at ha
  have h2 : ∀ b, Bk (kf (erP P c)) (fun _ => true) (erP P c).2.length b → Bk (kf P) (actO (some c)) P.2.length b := fun b hb => by
    obtain ⟨j, hj, -, rfl⟩ := hb
    rw [er_len hc] at hj
    rw [kf_er]
    refine ⟨if j < c then j else j + 1, ?_, ?_, rfl⟩
    · split <;> omega
    · have : ¬ c = (if j < c then j else j + 1) := by split <;> omega
      simp [actO, this]
  exact ⟨fun h k hk => h k (hk.mono h2), fun h k hk => h k (hk.mono h1)⟩
theorem FG.om {f f' : FF} {a a' : AA} (h : FG f a f' a') (x : Int32) : ∀ t i k, ¬ (t = 5 ∧ i = 0 ∧ 12 ≤ k ∧ k ≤ 20) → f' t i k = f t i k ∧ a' t i k = a t i k := fun t i k q => h t i k (fun z => q ⟨z.1, z.2.1, z.2.2.1, by omega⟩)
/-- graphs and the mark of a call left out may have changed -/
def FO (f : FF) (a : AA) (f' : FF) (a' : AA) : Prop := ∀ t i k, ¬ (t = 5 ∧ i = 0 ∧ 12 ≤ k ∧ k ≤ 20) → f' t i k = f t i k ∧ a' t i k = a t i k
theorem FO.rf (f : FF) (a : AA) : FO f a f a := fun _ _ _ _ => ⟨rfl, rfl⟩
theorem FO.fg {f f' f'' : FF} {a a' a'' : AA} (h : FO f a f' a') (h' : FG f' a' f'' a'') : FO f a f'' a'' := fun t i k q => ⟨(h'.om 0 t i k q).1.trans (h t i k q).1, (h'.om 0 t i k q).2.trans (h t i k q).2⟩
theorem FO.uf {f f' : FF} {a a' : AA} (h : FO f a f' a') (x : Int32) : FO f a (upf f' 5 0 20 x) a' := fun t i j q => by
  refine ⟨?_, (h t i j q).2⟩
  rw [upf_ne (fun z => q ⟨z.1, z.2.1, by omega⟩)]
  exact (h t i j q).1
theorem FO.st {f f' : FF} {a a' : AA} (h : FO f a f' a') {k : Nat} (hk : k < 12 ∨ 20 < k) : f' 5 0 k = f 5 0 k ∧ a' 5 0 k = a 5 0 k := h 5 0 k (by omega)
theorem FO.s4 {f f' : FF} {a a' : AA} (h : FO f a f' a') : S4 f a f' a' := fun t i ht => ⟨funext fun k => (h t i k (fun q => ht q.1)).1, funext fun k => (h t i k (fun q => ht q.1)).2⟩
theorem RepM.fo {f f' : FF} {a a' : AA} {A : Ab} (h : RepM f a A) (hF : FO f a f' a') (h20 : f' 5 0 20 = -4) : RepM f' a' A :=
  h.of (hF.st (by decide)).1 (hF.st (by decide)).1 (hF.st (by decide)).1 (by rw [h20, h.eo]) (fun k hk => by
    have : ∀ k, k ∈ [0, 1, 2, 4, 23, 24, 25] → k < 12 ∨ 20 < k := by decide
    exact (hF.st (this k hk)).2)
def sX5_spare : SP := fun As f a Q => match As with
  | [.inr (.inr (5, 0, 0))] => ∃ A, RepM f a A ∧ OKA A ∧ ∀ f' a', RepM f' a' A → S4 f a f' a' → Q (some (.inl (oN (spN (aP A))))) f' a'
  | _ => False
def eX5_spare : En := (tX5_spare, [(204, false, 1, sX5_allEnd)], fdX5, [], 0)
theorem eokX5_spare {g : Gm} (hg : GmOK g) : EnvOK g 6 RX5 cX5_spare (some .int) eX5_spare := ⟨okX5_spare, fun _ _ _ _ h => as2_all (P := fun i v => CallOK g 6 RX5 i v.1 v.2.1 v.2.2) (l := eX5_spare.2.1) ⟨callV_ok (t := 5) hg (mX5_allEnd hg) kX5_allEnd mlX5_204 qX5_allEnd.1 qX5_allEnd.2 ⟨by decide, by decide⟩ ⟨_, _, rfl⟩ shX5_allEnd, trivial⟩ h, fdX5_ok, (fun _ _ h => by cases h), rfl⟩
theorem rX5_spare (av : List AV) (f : FF) (a : AA) (post : PT) (h : sX5_spare av f a post) (X : XT) (hX : Clo eX5_spare post X) : X 0 (padL 3 (ent av)) [] f a := by
  unfold sX5_spare at h
  split at h
  · obtain ⟨A, hA, hO, h⟩ := h
    have hW := hO.1
    have n12 := hW.l12
    have i100 : vp_in 100 (al 5 0) := inA 101 (n := 100) rfl rfl (by decide) (by decide)
    obtain ⟨P, eP⟩ : ∃ P, P = aP A := ⟨_, rfl⟩
    have hR := hA.1
    rw [← eP] at h hW hR n12
    refine hX [15] 90 _ _ _ _ _ ?_
    refine ⟨P, none, hR, hW, hA.eo, om_no, fun f1 a1 hF1 => ?_⟩
    rw [cloM_none]
    unfold spN at h
    refine ⟨fun d => ?_, fun d => ?_⟩
    · have d : endsB P = false := b2i_e0.mp d
      simp only [d, Bool.false_eq_true, if_false] at h
      have fin : ∀ r c f2 a2, FO f a f2 a2 → r = firstU (fun c => endsB (erP P c)) P.2.length 0 → X 57 [some (.inr (.inr (5, 0, 0))), some (.inl (oN r)), some (.inl c)] [] f2 a2 := fun r c f2 a2 hF er => by
        refine hX [] 20 _ _ _ _ _ ?_
        rw [← er] at h
        exact h _ _ (hA.fo (hF.uf (-4)) (by rw [upf_s, if_pos rfl])) (hF.uf (-4)).s4
      have key : ∀ d c f2 a2, c + d = P.2.length → FO f a f2 a2 → firstU (fun c => endsB (erP P c)) P.2.length 0 = firstU (fun c => endsB (erP P c)) d c → X 15 [some (.inr (.inr (5, 0, 0))), some (.inl (-4)), some (.inl (nI c))] [] f2 a2 := by
        intro d
        induction d with
        | zero =>
          intro c f2 a2 hc hF er
          have hR2 : RM (a2 5 0 0) P := by rw [(hF.st (k := 0) (by decide)).2]; exact hR
          refine hX [57] 40 _ _ _ _ _ ?_
          exact ⟨i100, ⟨fun _ => fin none _ f2 a2 hF er.symm, fun q => absurd ((i_le hR2.2.1 rfl (by omega) (by omega)).mpr (by omega)) q⟩⟩
        | succ d ih =>
          intro c f2 a2 hc hF er
          have hR2 : RM (a2 5 0 0) P := by rw [(hF.st (k := 0) (by decide)).2]; exact hR
          have er : firstU (fun c => endsB (erP P c)) P.2.length 0 = if endsB (erP P c) = true then some c else firstU (fun c => endsB (erP P c)) d (c + 1) := er
          refine hX [15, 57] 60 _ _ _ _ _ ?_
          refine ⟨i100, ⟨fun q => absurd ((i_le hR2.2.1 rfl (by omega) (by omega)).mp q) (by omega), fun _ => ⟨fun q => absurd rfl q, fun _ => ?_⟩⟩⟩
          refine ⟨P, some c, hR2, hW, by rw [upf_s, if_pos rfl]; rfl, (fun g hg => by cases hg; omega), fun f3 a3 hF3 => ?_⟩
          have hF4 : FO f a f3 a3 := (hF.uf (nI c)).fg hF3
          have ec := cloM_er hW (show c < P.2.length by omega)
          refine ⟨fun q => ?_, fun q => ?_⟩
          · have q := of_decide_eq_false (b2i_e0.mp q)
            have q : endsB (erP P c) = false := Bool.eq_false_iff.mpr (fun z => q (ec.mpr z))
            have K := ih (c + 1) f3 a3 (by omega) hF4 (by rw [er, q]; rfl)
            rw [← nI_1] at K
            exact K
          · have q := ec.mp (of_decide_eq_true (b2i_n0.mp q))
            rw [if_pos q] at er
            have hR4 : RM (a3 5 0 0) P := by rw [(hF4.st (k := 0) (by decide)).2]; exact hR
            have n15 : X 15 [some (.inr (.inr (5, 0, 0))), some (.inl (nI c)), some (.inl (nI c + 1))] [] f3 a3 := by
              refine hX [57] 40 _ _ _ _ _ ?_
              refine ⟨i100, ⟨fun _ => fin (some c) _ f3 a3 hF4 er.symm, fun _ => ⟨fun _ => fin (some c) _ f3 a3 hF4 er.symm, fun q => ?_⟩⟩⟩
              exact absurd ((fM_none (o := some c) (fun g hg => by cases hg; omega)).mp q) (by intro y; cases y)
            exact n15
      exact key P.2.length 0 f1 a1 (by omega) ((FO.rf f a).fg hF1) rfl
    · have d : endsB P = true := b2i_n0.mp d
      simp only [d, if_true] at h
      exact h f1 a1 (hA.fg hF1) hF1.s4
  · exact h.elim
theorem shX5_spare : ∀ As f a Q, sX5_spare As f a Q → ∃ i r, As = .inr (.inr (5, i, 0)) :: r := by
  intro As f a Q h
  unfold sX5_spare at h
  split at h
  · exact ⟨_, _, rfl⟩
  · exact h.elim
theorem mX5_spare {g : Gm} (hg : GmOK g) : MetC g yX5_spare cX5_spare 3 (some .int) 6 sX5_spare := by
  refine MetC_of hg eX5_spare (eokX5_spare hg) (by decide +kernel) (fun av f a post h => ?_) rX5_spare
  unfold sX5_spare at h
  split at h
  · exact Nat.le_of_ble_eq_true rfl
  · exact h.elim
def sX5_mend : SP := fun As f a Q => match As with
  | [.inr (.inr (5, 0, 0))] => ∃ A, RepM f a A ∧ OKA A ∧ ∀ f' a', RepM f' a' A → S4 f a f' a' → Q (some (.inl (oN (mnN (aP A))))) f' a'
  | _ => False
def eX5_mend : En := (tX5_mend, [(204, false, 1, sX5_allEnd), (139, false, 3, sX5_of), (250, false, 4, sX5_endsIf)], fdX5, [], 0)
theorem eokX5_mend {g : Gm} (hg : GmOK g) : EnvOK g 7 RX5 cX5_mend (some .int) eX5_mend := ⟨okX5_mend, fun _ _ _ _ h => as2_all (P := fun i v => CallOK g 7 RX5 i v.1 v.2.1 v.2.2) (l := eX5_mend.2.1) ⟨callV_ok (t := 5) hg (mX5_allEnd hg) kX5_allEnd mlX5_204 qX5_allEnd.1 qX5_allEnd.2 ⟨by decide, by decide⟩ ⟨_, _, rfl⟩ shX5_allEnd, callV_ok (t := 5) hg (mX5_of hg) kX5_of mlX5_139 qX5_of.1 qX5_of.2 ⟨by decide, by decide⟩ ⟨_, _, rfl⟩ shX5_of, callV_ok (t := 5) hg (mX5_endsIf hg) kX5_endsIf mlX5_250 qX5_endsIf.1 qX5_endsIf.2 ⟨by decide, by decide⟩ ⟨_, _, rfl⟩ shX5_endsIf, trivial⟩ h, fdX5_ok, (fun _ _ h => by cases h), rfl⟩
theorem first_skip {p : Nat → Bool} {d : Nat} : ∀ {e i : Nat}, (∀ m, i ≤ m → m < i + e → p m = false) → firstU p (d + e) i = firstU p d (i + e)
  | 0, _, _ => rfl
  | e + 1, i, h => by
    show (if p i then some i else firstU p (d + e) (i + 1)) = _
    rw [h i (Nat.le_refl _) (by omega), if_neg (by decide), first_skip (fun m h1 h2 => h m (by omega) (by omega))]
    congr 1
    omega
theorem takes_i {P : Pg} (hW : WF P) {c k v : Nat} (hc : c < P.2.length) (hk : k < 10) (hv : v < 10) : takesB P (nI c) (nI k) (nI (101 + 10 * v)) = (decide (k < ar P (to P c)) && decide (v < ar P (fr P c))) := by
  have n12 := hW.l12
  have hat := hW.ar_to hc
  have haf := hW.ar_fr hc
  unfold takesB hasA
  rw [nI_clamp (show c < 2 ^ 31 by omega), nI_clamp (show 101 + 10 * v < 2 ^ 31 by omega), decide_eq_true (show 0 ≤ nI c ∧ nI c < nI P.2.length from ⟨nI_pos' (by omega), (nI_ltI (by omega) (by omega)).mpr hc⟩), decide_eq_true (show 0 ≤ nI (101 + 10 * v) from nI_pos' (by omega)), Bool.true_and, Bool.true_and]
  have e1 : decide (0 ≤ nI k ∧ nI k < nI (ar P (to P c))) = decide (k < ar P (to P c)) := by
    rw [decide_eq_decide]
    exact ⟨fun z => (nI_ltI (by omega) (by omega)).mp z.2, fun z => ⟨nI_pos' (by omega), (nI_ltI (by omega) (by omega)).mpr z⟩⟩
  have e2 : ∀ n, n < 3 → ∀ v, v < 10 → okA n (101 + 10 * v) = decide (v < n) := by decide
  rw [e1, e2 _ (by omega) v hv]
theorem mnB_i {P : Pg} (hW : WF P) {c k v : Nat} (hc : c < P.2.length) (hk : k < 10) (hv : v < 10) : mnB P (100 * c + 10 * k + v) = (decide (k < ar P (to P c)) && decide (v < ar P (fr P c)) && endsB (setA P c k (101 + 10 * v))) := by
  unfold mnB
  rw [show (100 * c + 10 * k + v) / 100 = c by omega, show (100 * c + 10 * k + v) / 10 % 10 = k by omega, show (100 * c + 10 * k + v) % 10 = v by omega, takes_i hW hc hk hv]
theorem mnB_o {P : Pg} (hW : WF P) {c k m : Nat} (hc : c < P.2.length) (hk : k ≤ 10) (h1 : 100 * c + 10 * k ≤ m) (h2 : m < 100 * c + 100) (h : ∀ k' v', k' < 10 → v' < 10 → m = 100 * c + 10 * k' + v' → ¬ (k' < ar P (to P c) ∧ v' < ar P (fr P c))) : mnB P m = false := by
  have em : m = 100 * c + 10 * (m / 10 % 10) + m % 10 := by omega
  have hh := h (m / 10 % 10) (m % 10) (by omega) (by omega) em
  rw [em, mnB_i hW hc (by omega) (by omega), ← Bool.decide_and, decide_eq_false hh, Bool.false_and]
theorem rX5_mend (av : List AV) (f : FF) (a : AA) (post : PT) (h : sX5_mend av f a post) (X : XT) (hX : Clo eX5_mend post X) : X 0 (padL 4 (ent av)) [] f a := by
  unfold sX5_mend at h
  split at h
  · obtain ⟨A, hA, hO, h⟩ := h
    have hW := hO.1
    have n12 := hW.l12
    have n3 := hW.l3
    have i100 : vp_in 100 (al 5 0) := inA 101 (n := 100) rfl rfl (by decide) (by decide)
    obtain ⟨P, eP⟩ : ∃ P, P = aP A := ⟨_, rfl⟩
    have hR := hA.1
    rw [← eP] at h hW hR n12 n3
    have rm : ∀ f1 a1, FG f a f1 a1 → RM (a1 5 0 0) P := fun f1 a1 hF => hF.rm hR
    have g0 : ∀ f1 a1, FG f a f1 a1 → post (some (.inl (oN (mnN P)))) f1 a1 := fun f1 a1 hF => h f1 a1 (hA.fg hF) hF.s4
    unfold mnN at g0
    refine hX [12] 90 _ _ _ _ _ ?_
    refine ⟨P, none, hR, hW, hA.eo, om_no, fun f1 a1 hF1 => ?_⟩
    rw [cloM_none]
    refine ⟨fun d => ?_, fun d => ?_⟩
    · have d : endsB P = false := b2i_e0.mp d
      rw [if_neg (by rw [d]; decide)] at g0
      obtain ⟨R0, eR⟩ : ∃ R0, R0 = firstU (mnB P) (100 * P.2.length) 0 := ⟨_, rfl⟩
      rw [← eR] at g0
      have lv : ∀ c k, c < P.2.length → k < ar P (to P c) → (∀ f2 a2 z3, FG f a f2 a2 → R0 = firstU (mnB P) (100 * (P.2.length - c) - 10 * (k + 1)) (100 * c + 10 * (k + 1)) → X 85 [some (.inr (.inr (5, 0, 0))), some (.inl (nI c)), some (.inl (nI k)), z3] [] f2 a2) →
          ∀ v, v ≤ ar P (fr P c) → ∀ f2 a2, FG f a f2 a2 → R0 = firstU (mnB P) (100 * (P.2.length - c) - 10 * k - v) (100 * c + 10 * k + v) → X 42 [some (.inr (.inr (5, 0, 0))), some (.inl (nI c)), some (.inl (nI k)), some (.inl (nI v))] [] f2 a2 := by
        intro c k hc hk K
        have hat := hW.ar_to hc
        have haf := hW.ar_fr hc
        refine forUp (Pr := fun v => ∀ f2 a2, FG f a f2 a2 → R0 = firstU (mnB P) (100 * (P.2.length - c) - 10 * k - v) (100 * c + 10 * k + v) → X 42 [some (.inr (.inr (5, 0, 0))), some (.inl (nI c)), some (.inl (nI k)), some (.inl (nI v))] [] f2 a2) ?_ ?_
        · intro v hv ih f2 a2 hF er
          have hR2 := rm f2 a2 hF
          obtain ⟨r0, r1, -⟩ := hR2.2.2.2 c hc
          have ef := hR2.arm hW r0 (hW.fr_lt hc)
          have hf := hW.fr_lt hc
          rw [show 100 * (P.2.length - c) - 10 * k - v = (100 * (P.2.length - c) - 10 * k - (v + 1)) + 1 by omega] at er
          have er : R0 = if mnB P (100 * c + 10 * k + v) = true then some (100 * c + 10 * k + v) else firstU (mnB P) (100 * (P.2.length - c) - 10 * k - (v + 1)) (100 * c + 10 * k + (v + 1)) := er
          have em := mnB_i hW hc (show k < 10 by omega) (show v < 10 by omega)
          rw [decide_eq_true hk, decide_eq_true hv, Bool.true_and, Bool.true_and] at em
          refine hX [42] 60 _ _ _ _ _ ?_
          refine ⟨c, 0, rfl, rfl, by omega, inA 101 r0 rfl (by omega) (by decide), ⟨fun q => absurd ((i_le ef rfl (by omega) (by omega)).mp q) (by omega), fun _ => ?_⟩⟩
          refine ⟨P, c, k, v, hR2, hW, hF.eo hA.eo, rfl, hc, rfl, hk, rfl, hv, fun f3 a3 hF3 => ⟨fun q => ?_, fun q => ?_⟩⟩
          · rw [em, b2i_e0.mp q, if_neg (by decide)] at er
            have K2 := ih f3 a3 (hF.tr hF3) er
            rw [← nI_1] at K2
            exact K2
          · rw [em, b2i_n0.mp q, if_pos rfl] at er
            have K2 := g0 f3 a3 (hF.tr hF3)
            rw [er] at K2
            refine pI K2 ?_
            show nI (100 * c + 10 * k + v) = _
            rw [← arg3]
        · intro f2 a2 hF er
          have hR2 := rm f2 a2 hF
          obtain ⟨r0, r1, -⟩ := hR2.2.2.2 c hc
          have ef := hR2.arm hW r0 (hW.fr_lt hc)
          have hf := hW.fr_lt hc
          refine hX [85] 60 _ _ _ _ _ ?_
          refine ⟨c, 0, rfl, rfl, by omega, inA 101 r0 rfl (by omega) (by decide), ⟨fun _ => ?_, fun q => absurd ((i_le ef rfl (by omega) (by omega)).mpr (Nat.le_refl _)) q⟩⟩
          refine K f2 a2 _ hF ?_
          rw [er, show 100 * (P.2.length - c) - 10 * k - ar P (fr P c) = (100 * (P.2.length - c) - 10 * (k + 1)) + (10 - ar P (fr P c)) by omega, first_skip (fun m h1 h2 => mnB_o hW hc (show k ≤ 10 by omega) (by omega) (by omega) (fun k' v' hk' hv' e z => by omega))]
          congr 1
          omega
      have lk : ∀ c, c < P.2.length → (∀ f2 a2 z2 z3, FG f a f2 a2 → R0 = firstU (mnB P) (100 * (P.2.length - (c + 1))) (100 * (c + 1)) → X 91 [some (.inr (.inr (5, 0, 0))), some (.inl (nI c)), z2, z3] [] f2 a2) →
          ∀ k, k ≤ ar P (to P c) → ∀ f2 a2 z3, FG f a f2 a2 → R0 = firstU (mnB P) (100 * (P.2.length - c) - 10 * k) (100 * c + 10 * k) → X 25 [some (.inr (.inr (5, 0, 0))), some (.inl (nI c)), some (.inl (nI k)), z3] [] f2 a2 := by
        intro c hc K
        have hat := hW.ar_to hc
        have haf := hW.ar_fr hc
        have ht := hW.to_lt hc
        refine forUp (Pr := fun k => ∀ f2 a2 z3, FG f a f2 a2 → R0 = firstU (mnB P) (100 * (P.2.length - c) - 10 * k) (100 * c + 10 * k) → X 25 [some (.inr (.inr (5, 0, 0))), some (.inl (nI c)), some (.inl (nI k)), z3] [] f2 a2) ?_ ?_
        · intro k hk ih f2 a2 z3 hF er
          have hR2 := rm f2 a2 hF
          obtain ⟨r0, r1, -⟩ := hR2.2.2.2 c hc
          have et := hR2.arm hW r1 ht
          refine hX [42] 60 _ _ _ _ _ ?_
          refine ⟨c, 1, rfl, rfl, by omega, inA 101 r1 rfl (by omega) (by decide), ⟨fun q => absurd ((i_le et rfl (by omega) (by omega)).mp q) (by omega), fun _ => ?_⟩⟩
          refine lv c k hc hk (fun f3 a3 z3 hF3 er3 => ?_) 0 (Nat.zero_le _) f2 a2 hF er
          refine hX [25] 20 _ _ _ _ _ ?_
          have K2 := ih f3 a3 z3 hF3 er3
          rw [← nI_1] at K2
          exact K2
        · intro f2 a2 z3 hF er
          have hR2 := rm f2 a2 hF
          obtain ⟨r0, r1, -⟩ := hR2.2.2.2 c hc
          have et := hR2.arm hW r1 ht
          refine hX [91] 60 _ _ _ _ _ ?_
          refine ⟨c, 1, rfl, rfl, by omega, inA 101 r1 rfl (by omega) (by decide), ⟨fun _ => ?_, fun q => absurd ((i_le et rfl (by omega) (by omega)).mpr (Nat.le_refl _)) q⟩⟩
          refine K f2 a2 _ _ hF ?_
          rw [er, show 100 * (P.2.length - c) - 10 * ar P (to P c) = (100 * (P.2.length - (c + 1))) + (100 - 10 * ar P (to P c)) by omega, first_skip (fun m h1 h2 => mnB_o hW hc (show ar P (to P c) ≤ 10 by omega) (by omega) (by omega) (fun k' v' hk' hv' e z => by omega))]
          congr 1
          omega
      have lc : ∀ c, c ≤ P.2.length → ∀ f2 a2 z2 z3, FG f a f2 a2 → R0 = firstU (mnB P) (100 * (P.2.length - c)) (100 * c) → X 12 [some (.inr (.inr (5, 0, 0))), some (.inl (nI c)), z2, z3] [] f2 a2 := by
        refine forUp (Pr := fun c => ∀ f2 a2 z2 z3, FG f a f2 a2 → R0 = firstU (mnB P) (100 * (P.2.length - c)) (100 * c) → X 12 [some (.inr (.inr (5, 0, 0))), some (.inl (nI c)), z2, z3] [] f2 a2) ?_ ?_
        · intro c hc ih f2 a2 z2 z3 hF er
          have hR2 := rm f2 a2 hF
          refine hX [25] 60 _ _ _ _ _ ?_
          refine ⟨i100, ⟨fun q => absurd ((i_le hR2.2.1 rfl (by omega) (by omega)).mp q) (by omega), fun _ => ?_⟩⟩
          refine lk c hc (fun f3 a3 z2 z3 hF3 er3 => ?_) 0 (Nat.zero_le _) f2 a2 _ hF er
          refine hX [12] 20 _ _ _ _ _ ?_
          have K2 := ih f3 a3 z2 z3 hF3 er3
          rw [← nI_1] at K2
          exact K2
        · intro f2 a2 z2 z3 hF er
          have hR2 := rm f2 a2 hF
          refine hX [] 60 _ _ _ _ _ ?_
          refine ⟨i100, ⟨fun _ => ?_, fun q => absurd ((i_le hR2.2.1 rfl (by omega) (by omega)).mpr (Nat.le_refl _)) q⟩⟩
          have K2 := g0 f2 a2 hF
          rw [er, Nat.sub_self] at K2
          exact K2
      exact lc 0 (Nat.zero_le _) f1 a1 _ _ hF1 eR
    · have d : endsB P = true := b2i_n0.mp d
      rw [if_pos d] at g0
      exact g0 f1 a1 hF1
  · exact h.elim
theorem shX5_mend : ∀ As f a Q, sX5_mend As f a Q → ∃ i r, As = .inr (.inr (5, i, 0)) :: r := by
  intro As f a Q h
  unfold sX5_mend at h
  split at h
  · exact ⟨_, _, rfl⟩
  · exact h.elim
theorem mX5_mend {g : Gm} (hg : GmOK g) : MetC g yX5_mend cX5_mend 4 (some .int) 7 sX5_mend := by
  refine MetC_of hg eX5_mend (eokX5_mend hg) (by decide +kernel) (fun av f a post h => ?_) rX5_mend
  unfold sX5_mend at h
  split at h
  · exact Nat.le_of_ble_eq_true rfl
  · exact h.elim
