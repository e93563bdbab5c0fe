/-! the reference's changes -/
/-- only row r of the reference's object changed -/
def FA (r : Nat) (a a' : AA) : Prop := ∀ t i k, ¬ (t = 5 ∧ i = 0 ∧ k = r) → a' t i k = a t i k
theorem FA.rf (r : Nat) (a : AA) : FA r a a := fun _ _ _ _ => rfl
theorem FA.tr {r : Nat} {a a' a'' : AA} (h : FA r a a') (h' : FA r a' a'') : FA r a a'' := fun t i k q => (h' t i k q).trans (h t i k q)
theorem FA.ua {r : Nat} {a a' : AA} (h : FA r a a') (n : Nat) (x : Int32) : FA r a (upa a' 5 0 r n x) := fun t i j q => by
  by_cases z : t = 5 ∧ i = 0
  · obtain ⟨rfl, rfl⟩ := z
    rw [upa_s, if_neg (fun y => q ⟨rfl, rfl, y⟩)]
    exact h 5 0 j q
  · rw [upa_o _ _ z]
    exact h t i j q
theorem FA.row {r : Nat} {a a' : AA} (h : FA r a a') {k : Nat} (hk : k ≠ r) : a' 5 0 k = a 5 0 k := h 5 0 k (fun q => hk q.2.2)
theorem FA.s4 {r : Nat} {a a' : AA} (h : FA r a a') (f : FF) : S4 f a f a' := fun t i ht => ⟨rfl, funext fun k => h t i k (fun q => ht q.1)⟩
theorem S4.uf {f f' : FF} {a a' : AA} (h : S4 f a f' a') (k : Nat) (x : Int32) : S4 f a (upf f' 5 0 k x) a' := fun t i ht => ⟨by
  rw [← (h t i ht).1]
  exact upf_o _ _ (fun q => ht q.1), (h t i ht).2⟩
theorem S4.ua {f f' : FF} {a a' : AA} (h : S4 f a f' a') (k n : Nat) (x : Int32) : S4 f a f' (upa a' 5 0 k n x) := fun t i ht => ⟨(h t i ht).1, by
  rw [← (h t i ht).2]
  exact upa_o _ _ (fun q => ht q.1)⟩
theorem RepM.stw {f f' : FF} {a a' : AA} {A : Ab} (h : RepM f a A) {P : Pg} (h5 : f' 5 0 5 = f 5 0 5) (h10 : f' 5 0 10 = f 5 0 10) (h26 : f' 5 0 26 = f 5 0 26) (h20 : f' 5 0 20 = f 5 0 20) (ha : ∀ k, k ∈ [1, 2, 4, 23, 24, 25] → a' 5 0 k = a 5 0 k) (hR : RM (a' 5 0 0) P) : RepM f' a' (P, A.2) := by
  obtain ⟨r1, ⟨r2, r3, r4⟩, r5, r6, r7, r8⟩ := h
  refine ⟨hR, ⟨by rw [h5]; exact r2, by rw [ha 4 (by decide)]; exact r3, by rw [h10]; exact r4⟩, ?_, ?_, by rw [h26]; exact r7, by rw [h20]; exact r8⟩
  · intro k hk
    rw [ha 1 (by decide), ha 2 (by decide)]
    exact r5 k hk
  · intro k hk
    have := r6 k hk
    unfold shM at this ⊢
    rw [ha 23 (by decide), ha 24 (by decide), ha 25 (by decide)]
    exact this
theorem RepM.fa0 {f : FF} {a a' : AA} {A : Ab} (h : RepM f a A) {P : Pg} (hF : FA 0 a a') (hR : RM (a' 5 0 0) P) : RepM f a' (P, A.2) :=
  h.stw rfl rfl rfl rfl (fun k hk => hF.row (by
    have : ∀ k, k ∈ [1, 2, 4, 23, 24, 25] → k ≠ 0 := by decide
    exact this k hk)) hR
theorem RepM.tp {f f' : FF} {a a' : AA} {A : Ab} (h : RepM f a A) {T : List Nat} {ft : Nat} (h5 : f' 5 0 5 = nI T.length) (h10 : f' 5 0 10 = nI ft) (h26 : f' 5 0 26 = f 5 0 26) (h20 : f' 5 0 20 = f 5 0 20) (ha : ∀ k, k ∈ [0, 1, 2, 23, 24, 25] → a' 5 0 k = a 5 0 k) (ht : ∀ i, i < T.length → a' 5 0 4 i = nI (T.getD i 0)) : RepM f' a' (aP A, T, ft, A.2.2.2) := by
  obtain ⟨r1, -, r5, r6, r7, r8⟩ := h
  refine ⟨by rw [ha 0 (by decide)]; exact r1, ⟨h5, ht, h10⟩, ?_, ?_, by rw [h26]; exact r7, by rw [h20]; exact r8⟩
  · intro k hk
    rw [ha 1 (by decide), ha 2 (by decide)]
    exact r5 k hk
  · intro k hk
    have := r6 k hk
    unfold shM at this ⊢
    rw [ha 23 (by decide), ha 24 (by decide), ha 25 (by decide)]
    exact this
def sX5_feed : SP := fun As f a Q => match As with
  | [.inr (.inr (5, 0, 0)), .inl x] => ∃ A, RepM f a A ∧ OKA A ∧ ∀ f' a', RepM f' a' (nxFeed A x) → S4 f a f' a' → Q (some (.inl (anFeed A x))) f' a'
  | _ => False
def eX5_feed : En := (tX5_feed, [(71, true, 3, sX5_in)], fdX5, [(69, .inr (.inl 127))], 0)
theorem eokX5_feed {g : Gm} (hg : GmOK g) : EnvOK g 1 RX5 cX5_feed (some .int) eX5_feed := ⟨okX5_feed, fun _ _ _ _ h => as2_all (P := fun i v => CallOK g 1 RX5 i v.1 v.2.1 v.2.2) (l := eX5_feed.2.1) ⟨callS_ok hg (mX5_in hg) kX5_in mlX5_71 qX5_in ⟨by decide, by decide⟩, trivial⟩ h, fdX5_ok, fun _ _ h => as2_all (P := fun i v => CstOK g RX5 i v ∧ vld v) (l := eX5_feed.2.2.2.1) ⟨cstX5_69, trivial⟩ h, rfl⟩
theorem rX5_feed (av : List AV) (f : FF) (a : AA) (post : PT) (h : sX5_feed av f a post) (X : XT) (hX : Clo eX5_feed post X) : X 0 (padL 2 (ent av)) [] f a := by
  unfold sX5_feed at h
  split at h
  · rename_i x
    obtain ⟨A, hA, hO, h⟩ := h
    have hT := hO.2.1.1
    have e1 := hA.2.1.1
    have ein : b2i (decide ((0 : Int64) ≤ x.toInt64 ∧ x.toInt64 ≤ (127 : Int64))) = b2i (decide (0 ≤ x ∧ x ≤ 127)) := in_c (by decide)
    unfold anFeed nxFeed at h
    refine hX [] 90 _ _ _ _ _ ?_
    refine ⟨fun d => ?_, fun d => ?_⟩
    · have d := of_decide_eq_true (b2i_n0.mp (fun z => d (ein.trans z)))
      simp only [if_pos d] at h
      have c160 : f 5 0 5 = 160 ↔ (aT A).length = 160 := i_eq (b := 160) e1 rfl (by omega) (by decide)
      refine ⟨fun q => ?_, fun q => ?_⟩
      · have d3 : (aT A).length < 160 := by have : ¬ (aT A).length = 160 := fun z => q (c160.mpr z); omega
        simp only [if_pos d3] at h
        obtain ⟨n, hn, rfl⟩ := ge0 (Int32.not_lt.mpr d.1)
        rw [nI_clamp hn] at h
        refine ⟨inA 160 e1 rfl d3 (by decide), ?_⟩
        have K := hA.tp (f' := upf f 5 0 5 (nI ((aT A).length + 1))) (a' := upa a 5 0 4 (aT A).length (nI n)) (T := aT A ++ [n]) (ft := aFt A) (by rw [upf_s, if_pos rfl, List.length_append]; rfl) (by rw [upf_s, if_neg (by decide)]; exact hA.2.1.2.2) (by rw [upf_s, if_neg (by decide)]) (by rw [upf_s, if_neg (by decide)]) (fun k hk => ((FA.rf 4 a).ua _ _).row (by
          have : ∀ k, k ∈ [0, 1, 2, 23, 24, 25] → k ≠ 4 := by decide
          exact this k hk)) (fun i hi => by
          rw [upa_s, if_pos rfl, upd_s]
          have hi : i < (aT A).length ∨ i = (aT A).length := by rw [List.length_append] at hi; simp at hi; omega
          rcases hi with hi | rfl
          · rw [if_neg (by omega), hA.2.1.2.1 i hi, List.getD_eq_getElem?_getD, List.getD_eq_getElem?_getD, List.getElem?_append_left hi]
          · rw [if_pos rfl, List.getD_eq_getElem?_getD, List.getElem?_append_right (Nat.le_refl _), Nat.sub_self]
            rfl)
        have h := h _ _ K (((S4.rf f a).uf _ _).ua _ _ _)
        have e2 : f 5 0 5 + 1 = nI ((aT A).length + 1) := by rw [e1, nI_succ]
        refine pIV h ?_ ?_ ?_
        · show _ = upf f 5 0 5 (f 5 0 5 + 1) 5 0 5
          rw [upf_s, if_pos rfl, e2]
        · show _ = upf f 5 0 5 (f 5 0 5 + 1)
          rw [e2]
        · show _ = upa a 5 0 4 (f 5 0 5).toNatClampNeg (nI n)
          rw [e1, nI_clamp (by omega)]
      · have d3 := c160.mp q
        simp only [if_neg (show ¬ (aT A).length < 160 by omega)] at h
        exact h f a hA (S4.rf f a)
    · have d := of_decide_eq_false (b2i_e0.mp (ein.symm.trans d))
      simp only [if_neg d] at h
      exact h f a hA (S4.rf f a)
  · exact h.elim
theorem shX5_feed : ∀ As f a Q, sX5_feed As f a Q → ∃ i r, As = .inr (.inr (5, i, 0)) :: r := by
  intro As f a Q h
  unfold sX5_feed at h
  split at h
  · exact ⟨_, _, rfl⟩
  · exact h.elim
theorem mX5_feed {g : Gm} (hg : GmOK g) : MetC g yX5_feed cX5_feed 2 (some .int) 1 sX5_feed := by
  refine MetC_of hg eX5_feed (eokX5_feed hg) (by decide +kernel) (fun av f a post h => ?_) rX5_feed
  unfold sX5_feed at h
  split at h
  · exact Nat.le_of_ble_eq_true rfl
  · exact h.elim
def sX5_end : SP := fun As f a Q => match As with
  | [.inr (.inr (5, 0, 0)), .inl x] => ∃ A, RepM f a A ∧ OKA A ∧ ∀ f' a', RepM f' a' (nxEnd A x) → S4 f a f' a' → Q (some (.inl (anEnd A x))) f' a'
  | _ => False
def eX5_end : En := (tX5_end, [(71, true, 3, sX5_in)], fdX5, [], 0)
theorem eokX5_end {g : Gm} (hg : GmOK g) : EnvOK g 1 RX5 cX5_end (some .int) eX5_end := ⟨okX5_end, fun _ _ _ _ h => as2_all (P := fun i v => CallOK g 1 RX5 i v.1 v.2.1 v.2.2) (l := eX5_end.2.1) ⟨callS_ok hg (mX5_in hg) kX5_in mlX5_71 qX5_in ⟨by decide, by decide⟩, trivial⟩ h, fdX5_ok, (fun _ _ h => by cases h), rfl⟩
theorem rX5_end (av : List AV) (f : FF) (a : AA) (post : PT) (h : sX5_end av f a post) (X : XT) (hX : Clo eX5_end post X) : X 0 (padL 3 (ent av)) [] f a := by
  unfold sX5_end at h
  split at h
  · rename_i x
    obtain ⟨A, hA, hO, h⟩ := h
    have hT := hO.2.1.1
    have e1 := hA.2.1.1
    have ein : b2i (decide ((0 : Int64) ≤ x.toInt64 ∧ x.toInt64 ≤ (f 5 0 5).toInt64)) = b2i (decide (0 ≤ x ∧ x ≤ nI (aT A).length)) := by
      rw [e1]
      exact in_c rfl
    unfold anEnd nxEnd at h
    refine hX [] 90 _ _ _ _ _ ?_
    refine ⟨fun d => ?_, fun d => ?_⟩
    · have d := of_decide_eq_true (b2i_n0.mp (fun z => d (ein.trans z)))
      simp only [if_pos d] at h
      obtain ⟨n, hn, rfl⟩ := ge0 (Int32.not_lt.mpr d.1)
      have hle : n ≤ (aT A).length := (nI_leI hn (by omega)).mp d.2
      rw [nI_clamp hn] at h
      have K := hA.tp (f' := upf f 5 0 5 (nI n)) (a' := a) (T := (aT A).take n) (ft := aFt A) (by rw [upf_s, if_pos rfl, List.length_take, Nat.min_eq_left hle]) (by rw [upf_s, if_neg (by decide)]; exact hA.2.1.2.2) (by rw [upf_s, if_neg (by decide)]) (by rw [upf_s, if_neg (by decide)]) (fun k hk => rfl) (fun i hi => by
        rw [List.length_take, Nat.min_eq_left hle] at hi
        rw [take_get hi]
        exact hA.2.1.2.1 i (by omega))
      exact pI (h _ _ K ((S4.rf f a).uf _ _)) e1.symm
    · have d := of_decide_eq_false (b2i_e0.mp (ein.symm.trans d))
      simp only [if_neg d] at h
      exact h f a hA (S4.rf f a)
  · exact h.elim
theorem shX5_end : ∀ As f a Q, sX5_end As f a Q → ∃ i r, As = .inr (.inr (5, i, 0)) :: r := by
  intro As f a Q h
  unfold sX5_end at h
  split at h
  · exact ⟨_, _, rfl⟩
  · exact h.elim
theorem mX5_end {g : Gm} (hg : GmOK g) : MetC g yX5_end cX5_end 3 (some .int) 1 sX5_end := by
  refine MetC_of hg eX5_end (eokX5_end hg) (by decide +kernel) (fun av f a post h => ?_) rX5_end
  unfold sX5_end at h
  split at h
  · exact Nat.le_of_ble_eq_true rfl
  · exact h.elim
theorem RM.opn {w w' : Nat → Int32} {P : Pg} (h : RM w P) (hl : P.1.length < 3) {n : Nat} (h3 : w' 3 = nI (P.1.length + 1)) (hn : w' P.1.length = nI n) (hw : ∀ j, j ≠ 3 → j ≠ P.1.length → w' j = w j) : RM w' (P.1 ++ [n], P.2) := by
  refine ⟨by rw [h3, List.length_append]; rfl, by rw [hw 100 (by decide) (by omega)]; exact h.2.1, fun i hi => ?_, fun c hc => ?_⟩
  · have hi : i < P.1.length ∨ i = P.1.length := by
      have : i < (P.1 ++ [n]).length := hi
      rw [List.length_append] at this
      simp at this
      omega
    rcases hi with hi | rfl
    · rw [hw i (by omega) (by omega), h.2.2.1 i hi]
      unfold ar
      rw [List.getD_eq_getElem?_getD, List.getD_eq_getElem?_getD, List.getElem?_append_left hi]
    · rw [hn]
      unfold ar
      rw [List.getD_eq_getElem?_getD, List.getElem?_append_right (Nat.le_refl _), Nat.sub_self]
      rfl
  · obtain ⟨q0, q1, q2⟩ := h.2.2.2 c hc
    refine ⟨by rw [hw _ (by omega) (by omega)]; exact q0, by rw [hw _ (by omega) (by omega)]; exact q1, fun k hk => ?_⟩
    obtain ⟨q3, q4, q5⟩ := q2 k hk
    exact ⟨by rw [hw _ (by omega) (by omega)]; exact q3, by rw [hw _ (by omega) (by omega)]; exact q4, by rw [hw _ (by omega) (by omega)]; exact q5⟩
def sX5_open : SP := fun As f a Q => match As with
  | [.inr (.inr (5, 0, 0)), .inl x] => ∃ A, RepM f a A ∧ OKA A ∧ ∀ f' a', RepM f' a' (nxOpen A x) → S4 f a f' a' → Q (some (.inl (anOpen A x))) f' a'
  | _ => False
def eX5_open : En := (tX5_open, [(71, true, 3, sX5_in)], fdX5, [(231, .inr (.inl 2))], 0)
theorem eokX5_open {g : Gm} (hg : GmOK g) : EnvOK g 1 RX5 cX5_open (some .int) eX5_open := ⟨okX5_open, fun _ _ _ _ h => as2_all (P := fun i v => CallOK g 1 RX5 i v.1 v.2.1 v.2.2) (l := eX5_open.2.1) ⟨callS_ok hg (mX5_in hg) kX5_in mlX5_71 qX5_in ⟨by decide, by decide⟩, trivial⟩ h, fdX5_ok, fun _ _ h => as2_all (P := fun i v => CstOK g RX5 i v ∧ vld v) (l := eX5_open.2.2.2.1) ⟨cstX5_231, trivial⟩ h, rfl⟩
theorem rX5_open (av : List AV) (f : FF) (a : AA) (post : PT) (h : sX5_open av f a post) (X : XT) (hX : Clo eX5_open post X) : X 0 (padL 2 (ent av)) [] f a := by
  unfold sX5_open at h
  split at h
  · rename_i x
    obtain ⟨A, hA, hO, h⟩ := h
    have n3 := hO.1.l3
    have e3 := hA.1.1
    have ein : b2i (decide ((1 : Int64) ≤ x.toInt64 ∧ x.toInt64 ≤ (2 : Int64))) = b2i (decide (1 ≤ x ∧ x ≤ 2)) := by
      rw [show (1 : Int64) = (1 : Int32).toInt64 from by decide, show (2 : Int64) = (2 : Int32).toInt64 from by decide]
      simp only [in32]
    unfold anOpen nxOpen at h
    have i3 : vp_in 3 (al 5 0) := inA 101 (n := 3) rfl rfl (by decide) (by decide)
    refine hX [] 90 _ _ _ _ _ ?_
    refine ⟨fun d => ?_, fun d => ?_⟩
    · have d := of_decide_eq_true (b2i_n0.mp (fun z => d (ein.trans z)))
      simp only [if_pos d] at h
      have c3 : a 5 0 0 3 = 3 ↔ (aP A).1.length = 3 := i_eq (b := 3) e3 rfl (by omega) (by decide)
      refine ⟨i3, ⟨fun q => ?_, fun q => ?_⟩⟩
      · have d3 : (aP A).1.length < 3 := by have : ¬ (aP A).1.length = 3 := fun z => q (c3.mpr z); omega
        simp only [if_pos d3] at h
        have hx0 : (0 : Int32) ≤ x := Int32.le_trans (by decide) d.1
        obtain ⟨n, hn, rfl⟩ := ge0 (Int32.not_lt.mpr hx0)
        rw [nI_clamp hn] at h
        refine ⟨i3, inA 101 e3 rfl (by omega) (by decide), i3, i3, i3, ?_⟩
        have hF : FA 0 a (upa (upa a 5 0 0 (aP A).1.length (nI n)) 5 0 0 3 (nI ((aP A).1.length + 1))) := ((FA.rf 0 a).ua _ _).ua _ _
        have hR : RM (upa (upa a 5 0 0 (aP A).1.length (nI n)) 5 0 0 3 (nI ((aP A).1.length + 1)) 5 0 0) ((aP A).1 ++ [n], (aP A).2) := hA.1.opn d3 (by rw [upa_s, if_pos rfl, upd_s, if_pos rfl]) (by rw [upa_s, if_pos rfl, upd_s, if_neg (by omega), upa_s, if_pos rfl, upd_s, if_pos rfl]) (fun j h1 h2 => by rw [upa_s, if_pos rfl, upd_s, if_neg h1, upa_s, if_pos rfl, upd_s, if_neg h2])
        have e4 : upa a 5 0 0 (aP A).1.length (nI n) 5 0 0 3 + 1 = nI ((aP A).1.length + 1) := by
          rw [upa_s, if_pos rfl, upd_s, if_neg (by omega), e3, nI_succ]
        have ec : (a 5 0 0 (3 : Int32).toNatClampNeg).toNatClampNeg = (aP A).1.length := by
          show (a 5 0 0 3).toNatClampNeg = _
          rw [e3, nI_clamp (by omega)]
        refine pIV (h _ _ (hA.fa0 hF hR) (hF.s4 f)) ?_ rfl ?_
        · show _ = upa (upa a 5 0 0 (a 5 0 0 (3 : Int32).toNatClampNeg).toNatClampNeg (nI n)) 5 0 0 3 (upa a 5 0 0 (a 5 0 0 (3 : Int32).toNatClampNeg).toNatClampNeg (nI n) 5 0 0 3 + 1) 5 0 0 3
          rw [ec, e4, upa_s, if_pos rfl, upd_s, if_pos rfl]
        · show _ = upa (upa a 5 0 0 (a 5 0 0 (3 : Int32).toNatClampNeg).toNatClampNeg (nI n)) 5 0 0 3 (upa a 5 0 0 (a 5 0 0 (3 : Int32).toNatClampNeg).toNatClampNeg (nI n) 5 0 0 3 + 1)
          rw [ec, e4]
      · have d3 := c3.mp q
        simp only [if_neg (show ¬ (aP A).1.length < 3 by omega)] at h
        exact h f a hA (S4.rf f a)
    · have d := of_decide_eq_false (b2i_e0.mp (ein.symm.trans d))
      simp only [if_neg d] at h
      exact h f a hA (S4.rf f a)
  · exact h.elim
theorem shX5_open : ∀ As f a Q, sX5_open As f a Q → ∃ i r, As = .inr (.inr (5, i, 0)) :: r := by
  intro As f a Q h
  unfold sX5_open at h
  split at h
  · exact ⟨_, _, rfl⟩
  · exact h.elim
theorem mX5_open {g : Gm} (hg : GmOK g) : MetC g yX5_open cX5_open 2 (some .int) 1 sX5_open := by
  refine MetC_of hg eX5_open (eokX5_open hg) (by decide +kernel) (fun av f a post h => ?_) rX5_open
  unfold sX5_open at h
  split at h
  · exact Nat.le_of_ble_eq_true rfl
  · exact h.elim
def sX5_cut : SP := fun As f a Q => match As with
  | [.inr (.inr (5, 0, 0)), .inl x] => ∃ A, RepM f a A ∧ OKA A ∧ ∀ f' a', RepM f' a' (nxCut A x) → S4 f a f' a' → Q (some (.inl (anCut A x))) f' a'
  | _ => False
def eX5_cut : En := (tX5_cut, [(71, true, 3, sX5_in)], fdX5, [], 0)
theorem eokX5_cut {g : Gm} (hg : GmOK g) : EnvOK g 1 RX5 cX5_cut (some .int) eX5_cut := ⟨okX5_cut, fun _ _ _ _ h => as2_all (P := fun i v => CallOK g 1 RX5 i v.1 v.2.1 v.2.2) (l := eX5_cut.2.1) ⟨callS_ok hg (mX5_in hg) kX5_in mlX5_71 qX5_in ⟨by decide, by decide⟩, trivial⟩ h, fdX5_ok, (fun _ _ h => by cases h), rfl⟩
theorem RM.ct {w w' : Nat → Int32} {P : Pg} (h : RM w P) {n : Nat} (hn : n ≤ P.2.length) (h12 : n ≤ 12) (h3 : w' 100 = nI n) (hl : P.1.length ≤ 3) (hw : ∀ j, j ≠ 100 → w' j = w j) : RM w' (P.1, P.2.take n) := by
  have el : (P.2.take n).length = n := by rw [List.length_take, Nat.min_eq_left hn]
  refine ⟨by rw [hw 3 (by decide)]; exact h.1, by rw [h3]; show nI n = nI (P.2.take n).length; rw [el], fun i hi => ?_, fun c hc => ?_⟩
  · have hi : i < P.1.length := hi
    rw [hw i (by omega)]
    exact h.2.2.1 i hi
  · have hc : c < (P.2.take n).length := hc
    rw [el] at hc
    obtain ⟨q0, q1, q2⟩ := h.2.2.2 c (by omega)
    simp only [fr, to, ag] at q0 q1 q2 ⊢
    rw [cl_take hc]
    refine ⟨by rw [hw _ (by omega)]; exact q0, by rw [hw _ (by omega)]; exact q1, fun k hk => ?_⟩
    obtain ⟨q3, q4, q5⟩ := q2 k hk
    exact ⟨by rw [hw _ (by omega)]; exact q3, by rw [hw _ (by omega)]; exact q4, by rw [hw _ (by omega)]; exact q5⟩
theorem rX5_cut (av : List AV) (f : FF) (a : AA) (post : PT) (h : sX5_cut av f a post) (X : XT) (hX : Clo eX5_cut post X) : X 0 (padL 3 (ent av)) [] f a := by
  unfold sX5_cut at h
  split at h
  · rename_i x
    obtain ⟨A, hA, hO, h⟩ := h
    have n12 := hO.1.l12
    have e1 := hA.1.2.1
    have ein : b2i (decide ((0 : Int64) ≤ x.toInt64 ∧ x.toInt64 ≤ (a 5 0 0 100).toInt64)) = b2i (decide (0 ≤ x ∧ x ≤ nI (aP A).2.length)) := by
      rw [e1]
      exact in_c rfl
    unfold anCut nxCut at h
    have i100 : vp_in 100 (al 5 0) := inA 101 (n := 100) rfl rfl (by decide) (by decide)
    refine hX [] 90 _ _ _ _ _ ?_
    refine ⟨i100, ⟨fun d => ?_, fun d => ?_⟩⟩
    · have d := of_decide_eq_true (b2i_n0.mp (fun z => d (ein.trans z)))
      simp only [if_pos d] at h
      obtain ⟨n, hn, rfl⟩ := ge0 (Int32.not_lt.mpr d.1)
      have hle : n ≤ (aP A).2.length := (nI_leI hn (by omega)).mp d.2
      rw [nI_clamp hn] at h
      refine ⟨i100, i100, ?_⟩
      have hF : FA 0 a (upa a 5 0 0 100 (nI n)) := (FA.rf 0 a).ua _ _
      have hR : RM (upa a 5 0 0 100 (nI n) 5 0 0) ((aP A).1, (aP A).2.take n) := hA.1.ct hle (by omega) (by rw [upa_s, if_pos rfl, upd_s, if_pos rfl]) hO.1.l3 (fun j hj => by rw [upa_s, if_pos rfl, upd_s, if_neg hj])
      exact pI (h _ _ (hA.fa0 hF hR) (hF.s4 f)) e1.symm
    · have d := of_decide_eq_false (b2i_e0.mp (ein.symm.trans d))
      simp only [if_neg d] at h
      exact h f a hA (S4.rf f a)
  · exact h.elim
theorem shX5_cut : ∀ As f a Q, sX5_cut As f a Q → ∃ i r, As = .inr (.inr (5, i, 0)) :: r := by
  intro As f a Q h
  unfold sX5_cut at h
  split at h
  · exact ⟨_, _, rfl⟩
  · exact h.elim
theorem mX5_cut {g : Gm} (hg : GmOK g) : MetC g yX5_cut cX5_cut 3 (some .int) 1 sX5_cut := by
  refine MetC_of hg eX5_cut (eokX5_cut hg) (by decide +kernel) (fun av f a post h => ?_) rX5_cut
  unfold sX5_cut at h
  split at h
  · exact Nat.le_of_ble_eq_true rfl
  · exact h.elim
