/-! the system's changes -/
theorem RepC.told {f f1 : FF} {a a1 : AA} {A : Ab} (h : RepC f a A) (hF : Fr f a f1 a1 1 0) {P : Pg} (hR : RC (f1 1 0) (a1 1 0) P) (hB : AB (a1 1 0)) : RepC (upf f1 4 0 7 1) a1 (P, A.2) ∧ S5 f a (upf f1 4 0 7 1) a1 := by
  have e : ∀ t i, ¬ (t = 1 ∧ i = 0) → t ≠ 4 → upf f1 4 0 7 1 t i = f t i ∧ a1 t i = a t i := fun t i h0 h4 => ⟨by rw [upf_o _ _ (fun q => h4 q.1)]; exact (hF t i h0).1, (hF t i h0).2⟩
  refine ⟨⟨?_, ?_, ?_, ?_, ?_, ?_, fun p hp => ?_⟩, ?_⟩
  · rw [upf_o _ _ (by decide)]; exact hR
  · rw [(e 3 0 (by decide) (by decide)).1, (e 3 0 (by decide) (by decide)).2]; exact h.2.1
  · intro k hk
    rw [(hF 4 0 (by decide)).2, (e 1 (2 + k) (fun q => by omega) (by decide)).1, (e 1 (2 + k) (fun q => by omega) (by decide)).2]
    exact h.2.2.1 k hk
  · intro k hk
    rw [(e 2 k (fun q => absurd q.1 (by decide)) (by decide)).1, (e 2 k (fun q => absurd q.1 (by decide)) (by decide)).2]
    exact h.2.2.2.1 k hk
  · rw [upf_s, if_neg (by decide), (hF 4 0 (by decide)).1]; exact h.2.2.2.2.1
  · exact Or.inl (by rw [upf_s, if_pos rfl])
  · by_cases hp0 : p = 0
    · rw [hp0]; exact hB
    · rw [(hF 1 p (fun q => hp0 q.2)).2]; exact h.2.2.2.2.2.2 p hp
  · exact e 5 0 (by decide) (by decide)
theorem RepC.tell {f f1 : FF} {a a1 : AA} {A : Ab} (h : RepC f a A) (hF : Fr f a f1 a1 3 0) {T : List Nat} {ft : Nat} (hR : tlC (f1 3 0) (a1 3 0) T ft) : RepC f1 a1 (aP A, T, ft, A.2.2.2) ∧ S5 f a f1 a1 := by
  have e : ∀ t i, ¬ (t = 3 ∧ i = 0) → f1 t i = f t i ∧ a1 t i = a t i := fun t i h0 => hF t i h0
  refine ⟨⟨?_, hR, ?_, ?_, ?_, ?_, fun p hp => by rw [(e 1 p (fun q => absurd q.1 (by decide))).2]; exact h.2.2.2.2.2.2 p hp⟩, e 5 0 (by decide)⟩
  · rw [(e 1 0 (by decide)).1, (e 1 0 (by decide)).2]; exact h.1
  · intro k hk
    rw [(e 4 0 (by decide)).2, (e 1 (2 + k) (fun q => absurd q.1 (by decide))).1, (e 1 (2 + k) (fun q => absurd q.1 (by decide))).2]
    exact h.2.2.1 k hk
  · intro k hk
    rw [(e 2 k (fun q => absurd q.1 (by decide))).1, (e 2 k (fun q => absurd q.1 (by decide))).2]
    exact h.2.2.2.1 k hk
  · rw [(e 4 0 (by decide)).1]; exact h.2.2.2.2.1
  · unfold stC
    rw [(e 4 0 (by decide)).1, (e 0 0 (by decide)).1, (e 0 0 (by decide)).2]
    exact h.2.2.2.2.2.1
def anFeed (A : Ab) (x : Int32) : Int32 := if 0 ≤ x ∧ x ≤ 127 then (if (aT A).length < 160 then nI ((aT A).length + 1) else -3) else -1
def nxFeed (A : Ab) (x : Int32) : Ab := if 0 ≤ x ∧ x ≤ 127 then (if (aT A).length < 160 then (aP A, aT A ++ [x.toNatClampNeg], A.2.2) else A) else A
def sX4_feed : SP := fun As f a Q => match As with
  | [.inr (.inr (4, 0, 0)), .inl x] => ∃ A, RepC f a A ∧ OKA A ∧ ∀ f' a', RepC f' a' (nxFeed A x) → S5 f a f' a' → Q (some (.inl (anFeed A x))) f' a'
  | _ => False
def eX4_feed : En := (tX4_feed, [], fdX4, [], 0)
theorem eokX4_feed {g : Gm} (hg : GmOK g) : EnvOK g 0 RX4 cX4_feed (some .int) eX4_feed := ⟨okX4_feed, (fun _ _ _ _ h => by cases h), fdX4_ok, (fun _ _ h => by cases h), rfl⟩
theorem nar_b : ∀ n, n < 128 → vp_nar .byte ((nI n).toInt8.toInt32) = nI n := by decide +kernel
theorem rX4_feed (av : List AV) (f : FF) (a : AA) (post : PT) (h : sX4_feed av f a post) (X : XT) (hX : Clo eX4_feed post X) : X 0 (padL 2 (ent av)) [] f a := by
  unfold sX4_feed at h
  split at h
  · rename_i x
    obtain ⟨A, hA, hO, h⟩ := h
    have hT := hO.2.1.1
    have e1 := hA.2.1.1
    unfold anFeed nxFeed at h
    refine hX [] 90 _ _ _ _ _ ?_
    refine ⟨fun d => ?_, fun d => ⟨fun d2 => ?_, fun d2 => ?_⟩⟩
    · simp only [if_neg (fun (z : _ ∧ _) => absurd z.1 (Int32.not_le.mpr d))] at h
      exact h f a hA (S5.rf f a)
    · simp only [if_pos (And.intro (Int32.not_lt.mp d) d2)] at h
      refine ⟨fun d3 => ?_, fun d3 => ?_⟩
      · have d3 : f 3 0 1 < 160 := d3
        rw [e1] at d3
        have d3 : (aT A).length < 160 := (nI_ltI (b := 160) (by omega) (by decide)).mp d3
        simp only [if_pos d3] at h
        obtain ⟨n, hn, rfl⟩ := ge0 d
        have hn128 : n < 128 := by have := (nI_leI (b := 127) hn (by decide)).mp d2; omega
        rw [nI_clamp hn] at h
        refine ⟨inA 160 e1 rfl d3 (by decide), ?_⟩
        have K := hA.tell (f1 := upf f 3 0 1 (nI ((aT A).length + 1))) (a1 := upa a 3 0 0 (aT A).length (nI n)) (((Fr.rf f a 3 0).uf 1 _).ua 0 _ _) (T := aT A ++ [n]) (ft := aFt A) ⟨by rw [upf_s, if_pos rfl, List.length_append]; rfl, fun i hi => by
          rw [upa_s, if_pos rfl, upd_s]
          have hi : i < (aT A).length ∨ i = (aT A).length := by rw [List.length_append] at hi; simp at hi; omega
          rcases hi with hi | rfl
          · rw [if_neg (by omega), hA.2.1.2.1 i hi, List.getD_eq_getElem?_getD, List.getD_eq_getElem?_getD, List.getElem?_append_left hi]
          · rw [if_pos rfl, List.getD_eq_getElem?_getD, List.getElem?_append_right (Nat.le_refl _), Nat.sub_self]
            rfl, by rw [upf_s, if_neg (by decide)]; exact hA.2.1.2.2⟩
        have h := h _ _ K.1 K.2
        have e2 : f 3 0 1 + 1 = nI ((aT A).length + 1) := by rw [e1, nI_succ]
        refine pIV h ?_ ?_ ?_
        · show _ = upf f 3 0 1 (f 3 0 1 + 1) 3 0 1
          rw [upf_s, if_pos rfl, e2]
        · show _ = upf f 3 0 1 (f 3 0 1 + 1)
          rw [e2]
        · show _ = upa a 3 0 0 (f 3 0 1).toNatClampNeg (vp_nar .byte ((nI n).toInt8.toInt32))
          rw [nar_b n hn128, e1, nI_clamp (by omega)]
      · have d3 : ¬ f 3 0 1 < 160 := d3
        rw [e1] at d3
        have d3 : ¬ (aT A).length < 160 := fun z => d3 ((nI_ltI (b := 160) (by omega) (by decide)).mpr z)
        simp only [if_neg d3] at h
        exact h f a hA (S5.rf f a)
    · simp only [if_neg (fun (z : _ ∧ _) => absurd z.2 d2)] at h
      exact h f a hA (S5.rf f a)
  · exact h.elim
theorem shX4_feed : ∀ As f a Q, sX4_feed As f a Q → ∃ i r, As = .inr (.inr (4, i, 0)) :: r := by
  intro As f a Q h
  unfold sX4_feed at h
  split at h
  · exact ⟨_, _, rfl⟩
  · exact h.elim
theorem mX4_feed {g : Gm} (hg : GmOK g) : MetC g yX4_feed cX4_feed 2 (some .int) 0 sX4_feed := by
  refine MetC_of hg eX4_feed (eokX4_feed hg) (by decide +kernel) (fun av f a post h => ?_) rX4_feed
  unfold sX4_feed at h
  split at h
  · exact Nat.le_of_ble_eq_true rfl
  · exact h.elim
def anEnd (A : Ab) (x : Int32) : Int32 := if 0 ≤ x ∧ x ≤ nI (aT A).length then nI (aT A).length else -1
def nxEnd (A : Ab) (x : Int32) : Ab := if 0 ≤ x ∧ x ≤ nI (aT A).length then (aP A, (aT A).take x.toNatClampNeg, A.2.2) else A
def sX4_end : SP := fun As f a Q => match As with
  | [.inr (.inr (4, 0, 0)), .inl x] => ∃ A, RepC f a A ∧ OKA A ∧ ∀ f' a', RepC f' a' (nxEnd A x) → S5 f a f' a' → Q (some (.inl (anEnd A x))) f' a'
  | _ => False
def eX4_end : En := (tX4_end, [], fdX4, [], 0)
theorem eokX4_end {g : Gm} (hg : GmOK g) : EnvOK g 0 RX4 cX4_end (some .int) eX4_end := ⟨okX4_end, (fun _ _ _ _ h => by cases h), fdX4_ok, (fun _ _ h => by cases h), rfl⟩
theorem take_get {T : List Nat} {n i : Nat} (h : i < n) : (T.take n).getD i 0 = T.getD i 0 := by
  rw [List.getD_eq_getElem?_getD, List.getD_eq_getElem?_getD, List.getElem?_take, if_pos h]
theorem rX4_end (av : List AV) (f : FF) (a : AA) (post : PT) (h : sX4_end av f a post) (X : XT) (hX : Clo eX4_end post X) : X 0 (padL 3 (ent av)) [] f a := by
  unfold sX4_end at h
  split at h
  · rename_i x
    obtain ⟨A, hA, hO, h⟩ := h
    have hT := hO.2.1.1
    have e1 := hA.2.1.1
    unfold anEnd nxEnd at h
    refine hX [] 90 _ _ _ _ _ ?_
    refine ⟨fun d => ?_, fun d => ⟨fun d2 => ?_, fun d2 => ?_⟩⟩
    · simp only [if_neg (fun (z : _ ∧ _) => absurd z.1 (Int32.not_le.mpr d))] at h
      exact h f a hA (S5.rf f a)
    · have d2 : x ≤ f 3 0 1 := d2
      rw [e1] at d2
      simp only [if_pos (And.intro (Int32.not_lt.mp d) d2)] at h
      obtain ⟨n, hn, rfl⟩ := ge0 d
      have hle : n ≤ (aT A).length := (nI_leI hn (by omega)).mp d2
      rw [nI_clamp hn] at h
      have K := hA.tell (f1 := upf f 3 0 1 (nI n)) (a1 := a) ((Fr.rf f a 3 0).uf 1 _) (T := (aT A).take n) (ft := aFt A) ⟨by rw [upf_s, if_pos rfl, List.length_take, Nat.min_eq_left hle], fun i hi => by
        rw [List.length_take, Nat.min_eq_left hle] at hi
        rw [take_get hi]
        exact hA.2.1.2.1 i (by omega), by rw [upf_s, if_neg (by decide)]; exact hA.2.1.2.2⟩
      exact pI (h _ _ K.1 K.2) e1.symm
    · have d2 : ¬ x ≤ f 3 0 1 := d2
      rw [e1] at d2
      simp only [if_neg (fun (z : _ ∧ _) => absurd z.2 d2)] at h
      exact h f a hA (S5.rf f a)
  · exact h.elim
theorem shX4_end : ∀ As f a Q, sX4_end As f a Q → ∃ i r, As = .inr (.inr (4, i, 0)) :: r := by
  intro As f a Q h
  unfold sX4_end at h
  split at h
  · exact ⟨_, _, rfl⟩
  · exact h.elim
theorem mX4_end {g : Gm} (hg : GmOK g) : MetC g yX4_end cX4_end 3 (some .int) 0 sX4_end := by
  refine MetC_of hg eX4_end (eokX4_end hg) (by decide +kernel) (fun av f a post h => ?_) rX4_end
  unfold sX4_end at h
  split at h
  · exact Nat.le_of_ble_eq_true rfl
  · exact h.elim
def anOpen (A : Ab) (x : Int32) : Int32 := if 1 ≤ x ∧ x ≤ 2 then (if (aP A).1.length < 3 then nI ((aP A).1.length + 1) else -3) else -1
def nxOpen (A : Ab) (x : Int32) : Ab := if 1 ≤ x ∧ x ≤ 2 then (if (aP A).1.length < 3 then (((aP A).1 ++ [x.toNatClampNeg], (aP A).2), A.2) else A) else A
def sX4_open : SP := fun As f a Q => match As with
  | [.inr (.inr (4, 0, 0)), .inl x] => ∃ A, RepC f a A ∧ OKA A ∧ ∀ f' a', RepC f' a' (nxOpen A x) → S5 f a f' a' → Q (some (.inl (anOpen A x))) f' a'
  | _ => False
def eX4_open : En := (tX4_open, [(202, false, 2, sX1_appendFunction)], fdX4, [], 0)
theorem eokX4_open {g : Gm} (hg : GmOK g) : EnvOK g 1 RX4 cX4_open (some .int) eX4_open := ⟨okX4_open, fun _ _ _ _ h => as2_all (P := fun i v => CallOK g 1 RX4 i v.1 v.2.1 v.2.2) (l := eX4_open.2.1) ⟨callV_ok (t := 1) hg (mX1_appendFunction hg) kX1_appendFunction mlX4_202 qX1_appendFunction.1 qX1_appendFunction.2 ⟨by decide, by decide⟩ ⟨_, _, rfl⟩ shX1_appendFunction, trivial⟩ h, fdX4_ok, (fun _ _ h => by cases h), rfl⟩
theorem RC.opn {f : FF} {a : AA} {p : Nat} {P : Pg} (h : RC (f 1 p) (a 1 p) P) (n : Nat) : RC (upf f 1 p 4 (nI (P.1.length + 1)) 1 p) (upa a 1 p 0 P.1.length (nI n) 1 p) (P.1 ++ [n], P.2) := by
  refine ⟨?_, ?_, fun i hi => ?_, fun c hc => ?_⟩
  · rw [upf_s, if_pos rfl, List.length_append]; rfl
  · rw [upf_s, if_neg (by decide)]; exact h.2.1
  · rw [upa_s, if_pos rfl, upd_s]
    have hi : i < P.1.length ∨ i = P.1.length := by
      have : i < (P.1 ++ [n]).length := hi
      rw [List.length_append] at this
      simp at this
      omega
    unfold ar
    rcases hi with hi | rfl
    · rw [if_neg (by omega), h.2.2.1 i hi, List.getD_eq_getElem?_getD, List.getElem?_append_left hi]
      unfold ar
      rw [List.getD_eq_getElem?_getD]
    · rw [if_pos rfl, List.getD_eq_getElem?_getD, List.getElem?_append_right (Nat.le_refl _), Nat.sub_self]
      rfl
  · have q := h.2.2.2 c hc
    rw [upa_s, if_neg (by decide), upa_s, if_neg (by decide), upa_s, if_neg (by decide)]
    exact q
theorem rX4_open (av : List AV) (f : FF) (a : AA) (post : PT) (h : sX4_open av f a post) (X : XT) (hX : Clo eX4_open post X) : X 0 (padL 2 (ent av)) [] f a := by
  unfold sX4_open at h
  split at h
  · rename_i x
    obtain ⟨A, hA, hO, h⟩ := h
    have h3 := hO.1.l3
    have e1 := hA.1.1
    unfold anOpen nxOpen at h
    refine hX [] 90 _ _ _ _ _ ?_
    refine ⟨fun d => ?_, fun d => ⟨fun d2 => ?_, fun d2 => ?_⟩⟩
    · simp only [if_neg (fun (z : _ ∧ _) => absurd z.1 (Int32.not_le.mpr d))] at h
      exact h f a hA (S5.rf f a)
    · simp only [if_pos (And.intro (Int32.not_lt.mp d) d2)] at h
      refine ⟨fun d3 => ?_, fun d3 => ?_⟩
      · have d3 : f 1 0 4 < 3 := d3
        rw [e1] at d3
        have d3 : (aP A).1.length < 3 := (nI_ltI (b := 3) (by omega) (by decide)).mp d3
        simp only [if_pos d3] at h
        obtain ⟨n, hn, rfl⟩ := ge0 (x := x) (fun z => d (Int32.lt_trans z (by decide)))
        rw [nI_clamp hn] at h
        refine ⟨(aP A).1.length, e1, d3, Or.inr rfl, ?_⟩
        have K := hA.told (((Fr.rf f a 1 0).uf 4 (nI ((aP A).1.length + 1))).ua 0 (aP A).1.length (nI n)) (hA.1.opn n) (fun i hi => by
          rw [upa_s, if_pos rfl, upd_s]
          by_cases hin : i = (aP A).1.length
          · exact ⟨n, by have := (nI_leI (b := 2) hn (by decide)).mp d2; omega, if_pos hin⟩
          · rw [if_neg hin]; exact hA.2.2.2.2.2.2 0 (by decide) i hi)
        refine pI (h _ _ K.1 K.2) ?_
        show _ = upf (upf f 1 0 4 (nI ((aP A).1.length + 1))) 4 0 7 1 1 0 4
        rw [upf_o _ _ (by decide), upf_s, if_pos rfl]
      · have d3 : ¬ f 1 0 4 < 3 := d3
        rw [e1] at d3
        have d3 : ¬ (aP A).1.length < 3 := fun z => d3 ((nI_ltI (b := 3) (by omega) (by decide)).mpr z)
        simp only [if_neg d3] at h
        exact h f a hA (S5.rf f a)
    · simp only [if_neg (fun (z : _ ∧ _) => absurd z.2 d2)] at h
      exact h f a hA (S5.rf f a)
  · exact h.elim
theorem shX4_open : ∀ As f a Q, sX4_open As f a Q → ∃ i r, As = .inr (.inr (4, i, 0)) :: r := by
  intro As f a Q h
  unfold sX4_open at h
  split at h
  · exact ⟨_, _, rfl⟩
  · exact h.elim
theorem mX4_open {g : Gm} (hg : GmOK g) : MetC g yX4_open cX4_open 2 (some .int) 1 sX4_open := by
  refine MetC_of hg eX4_open (eokX4_open hg) (by decide +kernel) (fun av f a post h => ?_) rX4_open
  unfold sX4_open at h
  split at h
  · exact Nat.le_of_ble_eq_true rfl
  · exact h.elim
def anAdd (A : Ab) (x y : Int32) : Int32 := if isF A x && isF A y then (if (aP A).2.length < 12 then nI ((aP A).2.length + 1) else -3) else -1
def nxAdd (A : Ab) (x y : Int32) : Ab := if isF A x && isF A y then (if (aP A).2.length < 12 then (((aP A).1, (aP A).2 ++ [(x.toNatClampNeg, y.toNatClampNeg, 0, 0)]), A.2) else A) else A
def sX4_add : SP := fun As f a Q => match As with
  | [.inr (.inr (4, 0, 0)), .inl x, .inl y] => ∃ A, RepC f a A ∧ OKA A ∧ ∀ f' a', RepC f' a' (nxAdd A x y) → S5 f a f' a' → Q (some (.inl (anAdd A x y))) f' a'
  | _ => False
def eX4_add : En := (tX4_add, [(108, false, 2, sX1_hasFunction), (206, false, 3, sX1_appendCall)], fdX4, [], 0)
theorem eokX4_add {g : Gm} (hg : GmOK g) : EnvOK g 2 RX4 cX4_add (some .int) eX4_add := ⟨okX4_add, fun _ _ _ _ h => as2_all (P := fun i v => CallOK g 2 RX4 i v.1 v.2.1 v.2.2) (l := eX4_add.2.1) ⟨callV_ok (t := 1) hg (mX1_hasFunction hg) kX1_hasFunction mlX4_108 qX1_hasFunction.1 qX1_hasFunction.2 ⟨by decide, by decide⟩ ⟨_, _, rfl⟩ shX1_hasFunction, callV_ok (t := 1) hg (mX1_appendCall hg) kX1_appendCall mlX4_206 qX1_appendCall.1 qX1_appendCall.2 ⟨by decide, by decide⟩ ⟨_, _, rfl⟩ shX1_appendCall, trivial⟩ h, fdX4_ok, (fun _ _ h => by cases h), rfl⟩
theorem apC_fr (f : FF) (a : AA) (p n : Nat) (x y : Int32) : Fr f a f (apC a p n x y) 1 p := ((((Fr.rf f a 1 p).ua 1 _ _).ua 2 _ _).ua 3 _ _).ua 3 _ _
theorem rX4_add (av : List AV) (f : FF) (a : AA) (post : PT) (h : sX4_add av f a post) (X : XT) (hX : Clo eX4_add post X) : X 0 (padL 3 (ent av)) [] f a := by
  unfold sX4_add at h
  split at h
  · rename_i x y
    obtain ⟨A, hA, hO, h⟩ := h
    have h12 := hO.1.l12
    have e1 := hA.1.2.1
    unfold anAdd nxAdd at h
    refine hX [] 90 _ _ _ _ _ ?_
    have eF : ∀ x, b2i (decide (0 ≤ x ∧ x < f 1 0 4)) = b2i (isF A x) := fun x => by rw [hA.1.1]; rfl
    refine ⟨fun d => ?_, fun d => ⟨fun d2 => ?_, fun d2 => ?_⟩⟩
    · rw [eF] at d
      simp only [b2i_e0.mp d, Bool.false_and, Bool.false_eq_true, if_false] at h
      exact h f a hA (S5.rf f a)
    · rw [eF] at d d2
      have d := b2i_n0.mp d
      have d2 := b2i_n0.mp d2
      simp only [d, d2, Bool.and_self, if_true] at h
      obtain ⟨i, rfl, hi, hi3⟩ := isF_i hO d
      obtain ⟨j, rfl, hj, hj3⟩ := isF_i hO d2
      rw [nI_clamp (show i < 2 ^ 31 by omega), nI_clamp (show j < 2 ^ 31 by omega)] at h
      refine ⟨fun d3 => ?_, fun d3 => ?_⟩
      · have d3 : f 1 0 5 < 12 := d3
        rw [e1] at d3
        have d3 : (aP A).2.length < 12 := (nI_ltI (b := 12) (by omega) (by decide)).mp d3
        simp only [if_pos d3] at h
        refine ⟨(aP A).2.length, e1, d3, Or.inr rfl, ?_⟩
        have K := hA.told (((Fr.rf f a 1 0).uf 5 (nI ((aP A).2.length + 1))).tr (apC_fr _ a 0 (aP A).2.length (nI i) (nI j))) hA.1.app (fun x hx => by
          unfold apC
          rw [upa_s, if_neg (by decide), upa_s, if_neg (by decide), upa_s, if_neg (by decide), upa_s, if_neg (by decide)]
          exact hA.2.2.2.2.2.2 0 (by decide) x hx)
        refine pI (h _ _ K.1 K.2) ?_
        show _ = upf (upf f 1 0 5 (nI ((aP A).2.length + 1))) 4 0 7 1 1 0 5
        rw [upf_o _ _ (by decide), upf_s, if_pos rfl]
      · have d3 : ¬ f 1 0 5 < 12 := d3
        rw [e1] at d3
        have d3 : ¬ (aP A).2.length < 12 := fun z => d3 ((nI_ltI (b := 12) (by omega) (by decide)).mpr z)
        simp only [if_neg d3] at h
        exact h f a hA (S5.rf f a)
    · rw [eF] at d2
      simp only [b2i_e0.mp d2, Bool.and_false, Bool.false_eq_true, if_false] at h
      exact h f a hA (S5.rf f a)
  · exact h.elim
theorem shX4_add : ∀ As f a Q, sX4_add As f a Q → ∃ i r, As = .inr (.inr (4, i, 0)) :: r := by
  intro As f a Q h
  unfold sX4_add at h
  split at h
  · exact ⟨_, _, rfl⟩
  · exact h.elim
theorem mX4_add {g : Gm} (hg : GmOK g) : MetC g yX4_add cX4_add 3 (some .int) 2 sX4_add := by
  refine MetC_of hg eX4_add (eokX4_add hg) (by decide +kernel) (fun av f a post h => ?_) rX4_add
  unfold sX4_add at h
  split at h
  · exact Nat.le_of_ble_eq_true rfl
  · exact h.elim
def anCut (A : Ab) (x : Int32) : Int32 := if 0 ≤ x ∧ x ≤ nI (aP A).2.length then nI (aP A).2.length else -1
def nxCut (A : Ab) (x : Int32) : Ab := if 0 ≤ x ∧ x ≤ nI (aP A).2.length then (((aP A).1, (aP A).2.take x.toNatClampNeg), A.2) else A
def sX4_cut : SP := fun As f a Q => match As with
  | [.inr (.inr (4, 0, 0)), .inl x] => ∃ A, RepC f a A ∧ OKA A ∧ ∀ f' a', RepC f' a' (nxCut A x) → S5 f a f' a' → Q (some (.inl (anCut A x))) f' a'
  | _ => False
def eX4_cut : En := (tX4_cut, [], fdX4, [], 0)
theorem eokX4_cut {g : Gm} (hg : GmOK g) : EnvOK g 0 RX4 cX4_cut (some .int) eX4_cut := ⟨okX4_cut, (fun _ _ _ _ h => by cases h), fdX4_ok, (fun _ _ h => by cases h), rfl⟩
theorem cl_take {P : Pg} {n c : Nat} (h : c < n) : cl (P.1, P.2.take n) c = cl P c := by
  unfold cl
  simp only [List.getD_eq_getElem?_getD, List.getElem?_take, if_pos h]
theorem rX4_cut (av : List AV) (f : FF) (a : AA) (post : PT) (h : sX4_cut av f a post) (X : XT) (hX : Clo eX4_cut post X) : X 0 (padL 3 (ent av)) [] f a := by
  unfold sX4_cut at h
  split at h
  · rename_i x
    obtain ⟨A, hA, hO, h⟩ := h
    have h12 := hO.1.l12
    have e1 := hA.1.2.1
    unfold anCut nxCut at h
    refine hX [] 90 _ _ _ _ _ ?_
    refine ⟨fun d => ?_, fun d => ⟨fun d2 => ?_, fun d2 => ?_⟩⟩
    · simp only [if_neg (fun (z : _ ∧ _) => absurd z.1 (Int32.not_le.mpr d))] at h
      exact h f a hA (S5.rf f a)
    · have d2 : x ≤ f 1 0 5 := d2
      rw [e1] at d2
      simp only [if_pos (And.intro (Int32.not_lt.mp d) d2)] at h
      obtain ⟨n, hn, rfl⟩ := ge0 d
      have hle : n ≤ (aP A).2.length := (nI_leI hn (by omega)).mp d2
      rw [nI_clamp hn] at h
      have K := hA.told (f1 := upf f 1 0 5 (nI n)) (a1 := a) ((Fr.rf f a 1 0).uf 5 _) (P := ((aP A).1, (aP A).2.take n)) ⟨by rw [upf_s, if_neg (by decide)]; exact hA.1.1, by rw [upf_s, if_pos rfl, List.length_take, Nat.min_eq_left hle], hA.1.2.2.1, fun c hc => by
        have hc : c < n := by
          have : c < ((aP A).2.take n).length := hc
          rw [List.length_take, Nat.min_eq_left hle] at this
          exact this
        simp only [fr, to, ag, cl_take hc]
        exact hA.1.2.2.2 c (by omega)⟩ (hA.2.2.2.2.2.2 0 (by decide))
      refine ⟨Or.inr rfl, ?_⟩
      exact pI (h _ _ K.1 K.2) e1.symm
    · have d2 : ¬ x ≤ f 1 0 5 := d2
      rw [e1] at d2
      simp only [if_neg (fun (z : _ ∧ _) => absurd z.2 d2)] at h
      exact h f a hA (S5.rf f a)
  · exact h.elim
theorem shX4_cut : ∀ As f a Q, sX4_cut As f a Q → ∃ i r, As = .inr (.inr (4, i, 0)) :: r := by
  intro As f a Q h
  unfold sX4_cut at h
  split at h
  · exact ⟨_, _, rfl⟩
  · exact h.elim
theorem mX4_cut {g : Gm} (hg : GmOK g) : MetC g yX4_cut cX4_cut 3 (some .int) 0 sX4_cut := by
  refine MetC_of hg eX4_cut (eokX4_cut hg) (by decide +kernel) (fun av f a post h => ?_) rX4_cut
  unfold sX4_cut at h
  split at h
  · exact Nat.le_of_ble_eq_true rfl
  · exact h.elim
