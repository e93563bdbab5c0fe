/-! the reference: images, sheets -/
theorem RM.cg {w w' : Nat → Int32} {P : Pg} (h : RM w P) (hW : WF P) (hw : ∀ j, j < 101 → w' j = w j) : RM w' P := by
  have n12 := hW.l12
  have n3 := hW.l3
  refine ⟨by rw [hw 3 (by decide)]; exact h.1, by rw [hw 100 (by decide)]; exact h.2.1, fun i hi => by rw [hw i (by omega)]; exact h.2.2.1 i hi, fun c hc => ?_⟩
  obtain ⟨q0, q1, q2⟩ := h.2.2.2 c hc
  refine ⟨by rw [hw _ (by omega)]; exact q0, by rw [hw _ (by omega)]; exact q1, fun k hk => ?_⟩
  obtain ⟨q3, q4, q5⟩ := q2 k hk
  exact ⟨by rw [hw _ (by omega)]; exact q3, by rw [hw _ (by omega)]; exact q4, by rw [hw _ (by omega)]; exact q5⟩
theorem RepM.im {f : FF} {a a' : AA} {A : Ab} (h : RepM f a A) (ha : ∀ k, k ∈ [0, 4, 23, 24, 25] → a' 5 0 k = a 5 0 k) {I : Nat → Option Pg} (hI : imM (a' 5 0) I) : RepM f a' (aP A, aT A, aFt A, I, aS A, aTn A) := by
  obtain ⟨r1, ⟨r2, r3, r4⟩, r5, r6, r7, r8⟩ := h
  refine ⟨by rw [ha 0 (by decide)]; exact r1, ⟨r2, by rw [ha 4 (by decide)]; exact r3, r4⟩, hI, ?_, r7, r8⟩
  intro k hk
  have := r6 k hk
  unfold shM at this ⊢
  rw [ha 23 (by decide), ha 24 (by decide), ha 25 (by decide)]
  exact this
theorem RepM.sh {f : FF} {a a' : AA} {A : Ab} (h : RepM f a A) {k : Nat} {s : Shp} (ha : ∀ k, k ∈ [0, 1, 2, 4] → a' 5 0 k = a 5 0 k) (hs : shM (a' 5 0) k s) (ho : ∀ j, j < 4 → j ≠ k → shM (a' 5 0) j (aS A j)) : RepM f a' (putS A k s) := by
  obtain ⟨r1, ⟨r2, r3, r4⟩, r5, r6, r7, r8⟩ := h
  refine ⟨by rw [ha 0 (by decide)]; exact r1, ⟨r2, by rw [ha 4 (by decide)]; exact r3, r4⟩, ?_, ?_, r7, r8⟩
  · intro k hk
    rw [ha 1 (by decide), ha 2 (by decide)]
    exact r5 k hk
  · intro j hj
    show shM (a' 5 0) j (if j = k then s else aS A j)
    by_cases z : j = k
    · rw [if_pos z, z]
      exact hs
    · rw [if_neg z]
      exact ho j hj z
theorem in_1 (k : Int32) : b2i (decide ((0 : Int64) ≤ k.toInt64 ∧ k.toInt64 ≤ (1 : Int64))) = b2i (isI k) := by
  rw [in_c (y := 1) (by decide)]
  unfold isI
  have e : k ≤ 1 ↔ k < 2 := le_pred (n := 2) (by decide)
  simp only [e]
def sX5_keep : SP := fun As f a Q => match As with
  | [.inr (.inr (5, 0, 0)), .inl k] => ∃ A, RepM f a A ∧ OKA A ∧ ∀ f' a', RepM f' a' (nxKeep A k) → S4 f a f' a' → Q (some (.inl (anKeep A k))) f' a'
  | _ => False
def eX5_keep : En := (tX5_keep, [(71, true, 3, sX5_in), (171, true, 1, sX5_flag)], fdX5, [], 0)
theorem eokX5_keep {g : Gm} (hg : GmOK g) : EnvOK g 1 RX5 cX5_keep (some .int) eX5_keep := ⟨okX5_keep, fun _ _ _ _ h => as2_all (P := fun i v => CallOK g 1 RX5 i v.1 v.2.1 v.2.2) (l := eX5_keep.2.1) ⟨callS_ok hg (mX5_in hg) kX5_in mlX5_71 qX5_in ⟨by decide, by decide⟩, callS_ok hg (mX5_flag hg) kX5_flag mlX5_171 qX5_flag ⟨by decide, by decide⟩, trivial⟩ h, fdX5_ok, (fun _ _ h => by cases h), rfl⟩
theorem rX5_keep (av : List AV) (f : FF) (a : AA) (post : PT) (h : sX5_keep av f a post) (X : XT) (hX : Clo eX5_keep post X) : X 0 (padL 4 (ent av)) [] f a := by
  unfold sX5_keep at h
  split at h
  · rename_i k
    obtain ⟨A, hA, hO, h⟩ := h
    unfold anKeep nxKeep at h
    have ein := in_1 k
    refine hX [31] 90 _ _ _ _ _ ?_
    refine ⟨fun d => ?_, fun d => ?_⟩
    · have d : isI k = true := b2i_n0.mp (fun z => d (ein.trans z))
      simp only [d, if_true] at h
      have d2 := of_decide_eq_true d
      obtain ⟨j, rfl, hj⟩ := rng (M := 2) (by decide) d2.1 d2.2
      have cj : (nI j).toNatClampNeg = j := nI_clamp (by omega)
      rw [cj] at h
      have hI := hA.2.2.1 j hj
      have ij : vp_in (nI j) (al 5 2) := inA 2 rfl rfl hj (by decide)
      refine ⟨ij, ij, ?_⟩
      obtain ⟨B, eB⟩ : ∃ B, B = upa a 5 0 2 j 1 := ⟨_, rfl⟩
      have hB : FA 2 a B := by rw [eB]; exact (FA.rf 2 a).ua _ _
      have loop : ∀ c, c ≤ 101 → ∀ a1, FA 1 B a1 → (∀ m, m < c → a1 5 0 1 (101 * j + m) = a 5 0 0 m) → (∀ m, m < 101 * j ∨ 101 * j + 101 ≤ m → a1 5 0 1 m = a 5 0 1 m) → X 31 [some (.inr (.inr (5, 0, 0))), some (.inl (nI j)), some (.inl (b2i (aI A j).isSome)), some (.inl (nI c))] [] f a1 := by
        refine forUp (Pr := fun c => ∀ a1, FA 1 B a1 → (∀ m, m < c → a1 5 0 1 (101 * j + m) = a 5 0 0 m) → (∀ m, m < 101 * j ∨ 101 * j + 101 ≤ m → a1 5 0 1 m = a 5 0 1 m) → X 31 [some (.inr (.inr (5, 0, 0))), some (.inl (nI j)), some (.inl (b2i (aI A j).isSome)), some (.inl (nI c))] [] f a1) ?_ ?_
        · intro c hc ih a1 hF hz hw
          have ei0 : 101 * nI j + nI c = nI (101 * j + c) := by rw [show (101 : Int32) = nI 101 from rfl, nI_mul, nI_add]
          have ei : (101 * nI j + nI c).toNatClampNeg = 101 * j + c := by rw [ei0, nI_clamp (by omega)]
          have e0 : a1 5 0 0 (nI c).toNatClampNeg = a 5 0 0 c := by
            rw [nI_clamp (by omega), hF.row (by decide), hB.row (by decide)]
          refine hX [31] 40 _ _ _ _ _ ?_
          refine ⟨fun q => absurd ((i_le (show (101 : Int32) = nI 101 from rfl) rfl (by decide) (by omega)).mp q) (by omega), fun _ => ⟨inA 101 rfl rfl hc (by decide), inA 202 ei0 rfl (by omega) (by decide), ?_⟩⟩
          have K := ih (upa a1 5 0 1 (101 * nI j + nI c).toNatClampNeg (a1 5 0 0 (nI c).toNatClampNeg)) (hF.ua _ _) (fun m hm => by
            rw [upa_s, if_pos rfl, upd_s, ei]
            by_cases z : 101 * j + m = 101 * j + c
            · rw [if_pos z, e0, show m = c by omega]
            · rw [if_neg z]
              exact hz m (by omega)) (fun m hm => by
            rw [upa_s, if_pos rfl, upd_s, ei, if_neg (by omega)]
            exact hw m hm)
          rw [← nI_1] at K
          exact K
        · intro a1 hF hz hw
          refine hX [] 40 _ _ _ _ _ ?_
          refine ⟨fun _ => ?_, fun q => absurd (by decide) q⟩
          have hr : ∀ k, k ≠ 1 → k ≠ 2 → a1 5 0 k = a 5 0 k := fun k h1 h2 => by rw [hF.row h1, hB.row h2]
          have h2 : ∀ m, a1 5 0 2 m = if m = j then 1 else a 5 0 2 m := fun m => by
            rw [hF.row (by decide), eB, upa_s, if_pos rfl, upd_s]
          refine h f a1 (hA.im (fun k hk => hr k (by
            have : ∀ k, k ∈ [0, 4, 23, 24, 25] → k ≠ 1 := by decide
            exact this k hk) (by
            have : ∀ k, k ∈ [0, 4, 23, 24, 25] → k ≠ 2 := by decide
            exact this k hk)) ?_) ((hB.s4 f).tr (hF.s4 f))
          intro m hm
          show a1 5 0 2 m = b2i (if m = j then some (aP A) else aI A m).isSome ∧ ∀ P, (if m = j then some (aP A) else aI A m) = some P → RM (fun i => a1 5 0 1 (101 * m + i)) P
          rw [h2 m]
          by_cases z : m = j
          · rw [if_pos z, if_pos z, z]
            refine ⟨rfl, fun P hP => ?_⟩
            cases hP
            exact hA.1.cg hO.1 (fun i hi => hz i hi)
          · rw [if_neg z, if_neg z]
            refine ⟨(hA.2.2.1 m hm).1, fun P hP => ?_⟩
            exact ((hA.2.2.1 m hm).2 P hP).cg (hO.2.2.2.1 m hm P hP) (fun i hi => hw _ (by omega))
      have K := loop 0 (Nat.zero_le _) B (FA.rf 1 B) (fun m hm => absurd hm (Nat.not_lt_zero m)) (fun m _ => by rw [hB.row (by decide)])
      have e2 : b2i (decide (¬ a 5 0 2 (nI j).toNatClampNeg = 0)) = b2i (aI A j).isSome := by rw [cj, hI.1, b2i_b]
      have e3 : upa a 5 0 2 (nI j).toNatClampNeg (vp_nar .boolean 1) = B := by rw [cj, nar_z1, eB]
      rw [← e2, ← e3] at K
      exact K
    · have d : isI k = false := b2i_e0.mp (ein.symm.trans d)
      simp only [d, Bool.false_eq_true, if_false] at h
      exact h f a hA (S4.rf f a)
  · exact h.elim
theorem shX5_keep : ∀ As f a Q, sX5_keep As f a Q → ∃ i r, As = .inr (.inr (5, i, 0)) :: r := by
  intro As f a Q h
  unfold sX5_keep at h
  split at h
  · exact ⟨_, _, rfl⟩
  · exact h.elim
theorem mX5_keep {g : Gm} (hg : GmOK g) : MetC g yX5_keep cX5_keep 4 (some .int) 1 sX5_keep := by
  refine MetC_of hg eX5_keep (eokX5_keep hg) (by decide +kernel) (fun av f a post h => ?_) rX5_keep
  unfold sX5_keep at h
  split at h
  · exact Nat.le_of_ble_eq_true rfl
  · exact h.elim
def sX5_back : SP := fun As f a Q => match As with
  | [.inr (.inr (5, 0, 0)), .inl k] => ∃ A, RepM f a A ∧ OKA A ∧ ∀ f' a', RepM f' a' (nxBack A k) → S4 f a f' a' → Q (some (.inl (anBack A k))) f' a'
  | _ => False
def eX5_back : En := (tX5_back, [(71, true, 3, sX5_in)], fdX5, [], 0)
theorem eokX5_back {g : Gm} (hg : GmOK g) : EnvOK g 1 RX5 cX5_back (some .int) eX5_back := ⟨okX5_back, fun _ _ _ _ h => as2_all (P := fun i v => CallOK g 1 RX5 i v.1 v.2.1 v.2.2) (l := eX5_back.2.1) ⟨callS_ok hg (mX5_in hg) kX5_in mlX5_71 qX5_in ⟨by decide, by decide⟩, trivial⟩ h, fdX5_ok, (fun _ _ h => by cases h), rfl⟩
theorem rX5_back (av : List AV) (f : FF) (a : AA) (post : PT) (h : sX5_back av f a post) (X : XT) (hX : Clo eX5_back post X) : X 0 (padL 3 (ent av)) [] f a := by
  unfold sX5_back at h
  split at h
  · rename_i k
    obtain ⟨A, hA, hO, h⟩ := h
    unfold anBack nxBack at h
    have ein := in_1 k
    refine hX [26] 90 _ _ _ _ _ ?_
    refine ⟨fun d => ?_, fun d => ?_⟩
    · have d : isI k = true := b2i_n0.mp (fun z => d (ein.trans z))
      simp only [d, if_true] at h
      have d2 := of_decide_eq_true d
      obtain ⟨j, rfl, hj⟩ := rng (M := 2) (by decide) d2.1 d2.2
      have cj : (nI j).toNatClampNeg = j := nI_clamp (by omega)
      rw [cj] at h
      have hI := hA.2.2.1 j hj
      refine ⟨inA 2 rfl rfl hj (by decide), ?_⟩
      rw [cj, hI.1]
      cases hsh : aI A j with
      | none =>
        rw [hsh] at h
        exact ⟨fun q => absurd rfl q, fun q => h f a hA (S4.rf f a)⟩
      | some P =>
        rw [hsh] at h
        have hWP := hO.2.2.2.1 j hj P hsh
        have hRP := hI.2 P hsh
        refine ⟨fun q => ?_, fun q => absurd (show (1 : Int32) = 0 from q) (by decide)⟩
        have loop : ∀ c, c ≤ 101 → ∀ a1, FA 0 a a1 → (∀ m, m < c → a1 5 0 0 m = a 5 0 1 (101 * j + m)) → X 26 [some (.inr (.inr (5, 0, 0))), some (.inl (nI j)), some (.inl (nI c))] [] f a1 := by
          refine forUp (Pr := fun c => ∀ a1, FA 0 a a1 → (∀ m, m < c → a1 5 0 0 m = a 5 0 1 (101 * j + m)) → X 26 [some (.inr (.inr (5, 0, 0))), some (.inl (nI j)), some (.inl (nI c))] [] f a1) ?_ ?_
          · intro c hc ih a1 hF hz
            have ei0 : 101 * nI j + nI c = nI (101 * j + c) := by rw [show (101 : Int32) = nI 101 from rfl, nI_mul, nI_add]
            have ei : (101 * nI j + nI c).toNatClampNeg = 101 * j + c := by rw [ei0, nI_clamp (by omega)]
            have ec : (nI c).toNatClampNeg = c := nI_clamp (by omega)
            refine hX [26] 40 _ _ _ _ _ ?_
            refine ⟨fun q => absurd ((i_le (show (101 : Int32) = nI 101 from rfl) rfl (by decide) (by omega)).mp q) (by omega), fun _ => ⟨inA 202 ei0 rfl (by omega) (by decide), inA 101 rfl rfl hc (by decide), ?_⟩⟩
            have K := ih (upa a1 5 0 0 (nI c).toNatClampNeg (a1 5 0 1 (101 * nI j + nI c).toNatClampNeg)) (hF.ua _ _) (fun m hm => by
              rw [upa_s, if_pos rfl, upd_s, ei, ec]
              by_cases z : m = c
              · rw [if_pos z, hF.row (by decide), z]
              · rw [if_neg z]
                exact hz m (by omega))
            rw [← nI_1] at K
            exact K
          · intro a1 hF hz
            refine hX [] 40 _ _ _ _ _ ?_
            refine ⟨fun _ => ⟨inA 101 (n := 100) rfl rfl (by decide) (by decide), ?_⟩, fun q => absurd (by decide) q⟩
            have hR : RM (a1 5 0 0) P := hRP.cg hWP (fun m hm => hz m hm)
            exact pI (h f a1 (hA.fa0 hF hR) (hF.s4 f)) hR.2.1.symm
        exact loop 0 (Nat.zero_le _) a (FA.rf 0 a) (fun m hm => absurd hm (Nat.not_lt_zero m))
    · have d : isI k = false := b2i_e0.mp (ein.symm.trans d)
      simp only [d, Bool.false_eq_true, if_false] at h
      exact h f a hA (S4.rf f a)
  · exact h.elim
theorem shX5_back : ∀ As f a Q, sX5_back As f a Q → ∃ i r, As = .inr (.inr (5, i, 0)) :: r := by
  intro As f a Q h
  unfold sX5_back at h
  split at h
  · exact ⟨_, _, rfl⟩
  · exact h.elim
theorem mX5_back {g : Gm} (hg : GmOK g) : MetC g yX5_back cX5_back 3 (some .int) 1 sX5_back := by
  refine MetC_of hg eX5_back (eokX5_back hg) (by decide +kernel) (fun av f a post h => ?_) rX5_back
  unfold sX5_back at h
  split at h
  · exact Nat.le_of_ble_eq_true rfl
  · exact h.elim
def sX5_isSheet : SP := fun As f a Q => match As with
  | [.inl k, .inl l] => Q (some (.inl (b2i (decide (0 ≤ k ∧ k < 4) && decide (0 ≤ l ∧ l ≤ 2))))) f a
  | _ => False
def eX5_isSheet : En := (tX5_isSheet, [(71, true, 3, sX5_in)], fdX5, [(226, .inr (.inl 3)), (231, .inr (.inl 2))], 1)
theorem eokX5_isSheet {g : Gm} (hg : GmOK g) : EnvOK g 1 RX5 cX5_isSheet (some .boolean) eX5_isSheet := ⟨okX5_isSheet, fun _ _ _ _ h => as2_all (P := fun i v => CallOK g 1 RX5 i v.1 v.2.1 v.2.2) (l := eX5_isSheet.2.1) ⟨callS_ok hg (mX5_in hg) kX5_in mlX5_71 qX5_in ⟨by decide, by decide⟩, trivial⟩ h, fdX5_ok, fun _ _ h => as2_all (P := fun i v => CstOK g RX5 i v ∧ vld v) (l := eX5_isSheet.2.2.2.1) ⟨cstX5_226, cstX5_231, trivial⟩ h, rfl⟩
theorem rX5_isSheet (av : List AV) (f : FF) (a : AA) (post : PT) (h : sX5_isSheet av f a post) (X : XT) (hX : Clo eX5_isSheet post X) : X 0 (padL 2 (ent av)) [] f a := by
  unfold sX5_isSheet at h
  split at h
  · rename_i k l
    have e1 : b2i (decide ((0 : Int64) ≤ k.toInt64 ∧ k.toInt64 ≤ (3 : Int64))) = b2i (decide (0 ≤ k ∧ k < 4)) := by
      rw [in_c (y := 3) (by decide)]
      have e : k ≤ 3 ↔ k < 4 := le_pred (n := 4) (by decide)
      simp only [e]
    have e2 : b2i (decide ((0 : Int64) ≤ l.toInt64 ∧ l.toInt64 ≤ (2 : Int64))) = b2i (decide (0 ≤ l ∧ l ≤ 2)) := in_c (by decide)
    refine hX [] 60 _ _ _ _ _ ?_
    refine ⟨fun d => ?_, fun d => ⟨fun d2 => ?_, fun d2 => ?_⟩⟩
    · have d := b2i_e0.mp (e1.symm.trans d)
      exact pF h (by rw [d, Bool.false_and])
    · have d2 := b2i_e0.mp (e2.symm.trans d2)
      exact pF h (by rw [d2, Bool.and_false])
    · have d := b2i_n0.mp (fun z => d (e1.trans z))
      have d2 := b2i_n0.mp (fun z => d2 (e2.trans z))
      exact pT h (by rw [d, d2]; rfl)
  · exact h.elim
theorem mX5_isSheet {g : Gm} (hg : GmOK g) : MetC g yX5_isSheet cX5_isSheet 2 (some .boolean) 1 sX5_isSheet := by
  refine MetC_of hg eX5_isSheet (eokX5_isSheet hg) (by decide +kernel) (fun av f a post h => ?_) rX5_isSheet
  unfold sX5_isSheet at h
  split at h
  · exact Nat.le_of_ble_eq_true rfl
  · exact h.elim
def sX5_sheet : SP := fun As f a Q => match As with
  | [.inr (.inr (5, 0, 0)), .inl k, .inl l, .inl n] => ∃ A, RepM f a A ∧ OKA A ∧ ∀ f' a', RepM f' a' (nxSheet A k l n) → S4 f a f' a' → Q (some (.inl (anSheet k l n))) f' a'
  | _ => False
def eX5_sheet : En := (tX5_sheet, [(269, true, 2, sX5_isSheet)], fdX5, [], 0)
theorem eokX5_sheet {g : Gm} (hg : GmOK g) : EnvOK g 2 RX5 cX5_sheet (some .int) eX5_sheet := ⟨okX5_sheet, fun _ _ _ _ h => as2_all (P := fun i v => CallOK g 2 RX5 i v.1 v.2.1 v.2.2) (l := eX5_sheet.2.1) ⟨callS_ok hg (mX5_isSheet hg) kX5_isSheet mlX5_269 qX5_isSheet ⟨by decide, by decide⟩, trivial⟩ h, fdX5_ok, (fun _ _ h => by cases h), rfl⟩
theorem rX5_sheet (av : List AV) (f : FF) (a : AA) (post : PT) (h : sX5_sheet av f a post) (X : XT) (hX : Clo eX5_sheet post X) : X 0 (padL 5 (ent av)) [] f a := by
  unfold sX5_sheet at h
  split at h
  · rename_i k l n
    obtain ⟨A, hA, hO, h⟩ := h
    unfold anSheet nxSheet at h
    refine hX [40] 90 _ _ _ _ _ ?_
    refine ⟨fun d => ?_, fun d => ⟨fun d3 => ?_, fun d3 => ?_⟩⟩
    · have d := b2i_e0.mp d
      have d : ¬ ((0 ≤ k ∧ k < 4) ∧ (0 ≤ l ∧ l ≤ 2)) := fun z => by
        rw [decide_eq_true z.1, decide_eq_true z.2] at d
        exact absurd d (by decide)
      rw [if_neg (fun z => d ⟨z.1.1, z.1.2.1⟩), if_neg (fun z => d ⟨z.1, z.2.1⟩)] at h
      exact h f a hA (S4.rf f a)
    · have d := b2i_n0.mp d
      rw [Bool.and_eq_true, decide_eq_true_eq, decide_eq_true_eq] at d
      obtain ⟨d, d2⟩ := d
      refine ⟨fun d4 => ?_, fun d4 => ?_⟩
      · rw [if_pos ⟨⟨d, d2, d3⟩, Int32.not_lt.mpr d4⟩, if_pos ⟨d, d2, d3⟩, if_neg (Int32.not_lt.mpr d4)] at h
        obtain ⟨i, rfl, hi⟩ := rng (M := 4) (by decide) d.1 d.2
        obtain ⟨j, hj, rfl⟩ := ge0 (Int32.not_lt.mpr d2.1)
        obtain ⟨m, hm, rfl⟩ := ge0 (Int32.not_lt.mpr d4)
        have ci : (nI i).toNatClampNeg = i := nI_clamp (by omega)
        rw [ci, nI_clamp hj, nI_clamp hm] at h
        refine ⟨inA 4 rfl rfl hi (by decide), inA 4 rfl rfl hi (by decide), ?_⟩
        obtain ⟨B, eB⟩ : ∃ B, B = upa (upa a 5 0 23 i (nI j)) 5 0 24 i (nI m) := ⟨_, rfl⟩
        have hB0 : ∀ k, k ≠ 23 → k ≠ 24 → B 5 0 k = a 5 0 k := fun k h1 h2 => by
          rw [eB, upa_s, if_neg h2, upa_s, if_neg h1]
        have hB1 : ∀ x, B 5 0 23 x = if x = i then nI j else a 5 0 23 x := fun x => by
          rw [eB, upa_s, if_neg (by decide), upa_s, if_pos rfl, upd_s]
        have hB2 : ∀ x, B 5 0 24 x = if x = i then nI m else a 5 0 24 x := fun x => by
          rw [eB, upa_s, if_pos rfl, upd_s, upa_s, if_neg (show ¬ 24 = 23 by decide)]
        have hBS : S4 f a f B := by
          rw [eB]
          exact ((S4.rf f a).ua _ _ _).ua _ _ _
        have loop : ∀ c, c ≤ 40 → ∀ a1, FA 25 B a1 → (∀ x, x < c → a1 5 0 25 (40 * i + x) = 0) → (∀ x, x < 40 * i ∨ 40 * i + 40 ≤ x → a1 5 0 25 x = a 5 0 25 x) → X 40 [some (.inr (.inr (5, 0, 0))), some (.inl (nI i)), some (.inl (nI j)), some (.inl (nI m)), some (.inl (nI c))] [] f a1 := by
          refine forUp (Pr := fun c => ∀ a1, FA 25 B a1 → (∀ x, x < c → a1 5 0 25 (40 * i + x) = 0) → (∀ x, x < 40 * i ∨ 40 * i + 40 ≤ x → a1 5 0 25 x = a 5 0 25 x) → X 40 [some (.inr (.inr (5, 0, 0))), some (.inl (nI i)), some (.inl (nI j)), some (.inl (nI m)), some (.inl (nI c))] [] f a1) ?_ ?_
          · intro c hc ih a1 hF hz hw
            have ei0 : 40 * nI i + nI c = nI (40 * i + c) := by rw [show (40 : Int32) = nI 40 from rfl, nI_mul, nI_add]
            have ei : (40 * nI i + nI c).toNatClampNeg = 40 * i + c := by rw [ei0, nI_clamp (by omega)]
            refine hX [40] 40 _ _ _ _ _ ?_
            refine ⟨fun q => absurd ((i_le (show (40 : Int32) = nI 40 from rfl) rfl (by decide) (by omega)).mp q) (by omega), fun _ => ⟨inA 160 ei0 rfl (by omega) (by decide), ?_⟩⟩
            have K := ih (upa a1 5 0 25 (40 * nI i + nI c).toNatClampNeg 0) (hF.ua _ _) (fun x hx => by
              rw [upa_s, if_pos rfl, upd_s, ei]
              by_cases z : 40 * i + x = 40 * i + c
              · rw [if_pos z]
              · rw [if_neg z]
                exact hz x (by omega)) (fun x hx => by
              rw [upa_s, if_pos rfl, upd_s, ei, if_neg (by omega)]
              exact hw x hx)
            rw [← nI_1] at K
            exact K
          · intro a1 hF hz hw
            refine hX [] 40 _ _ _ _ _ ?_
            refine ⟨fun _ => ?_, fun q => absurd (by decide) q⟩
            refine h f a1 (hA.sh (fun k hk => ?_) ⟨?_, ?_, hz⟩ (fun x hx hxi => ?_)) (hBS.tr (hF.s4 f))
            · have : ∀ k, k ∈ [0, 1, 2, 4] → k ≠ 25 ∧ k ≠ 23 ∧ k ≠ 24 := by decide
              obtain ⟨q1, q2, q3⟩ := this k hk
              rw [hF.row q1, hB0 k q2 q3]
            · rw [hF.row (by decide), hB1, if_pos rfl]
            · rw [hF.row (by decide), hB2, if_pos rfl]
            · have := hA.2.2.2.1 x hx
              unfold shM at this ⊢
              rw [hF.row (show 23 ≠ 25 by decide), hF.row (show 24 ≠ 25 by decide), hB1, hB2, if_neg hxi, if_neg hxi]
              cases hsh : aS A x with
              | none =>
                rw [hsh] at this
                exact this
              | some w =>
                obtain ⟨l0, n0, cs⟩ := w
                rw [hsh] at this
                exact ⟨this.1, this.2.1, fun y hy => by rw [hw _ (by omega)]; exact this.2.2 y hy⟩
        have K := loop 0 (Nat.zero_le _) B (FA.rf 25 B) (fun m hm => absurd hm (Nat.not_lt_zero m)) (fun m _ => by rw [hB0 25 (by decide) (by decide)])
        have e3 : upa (upa a 5 0 23 (nI i).toNatClampNeg (nI j)) 5 0 24 (nI i).toNatClampNeg (nI m) = B := by rw [ci, eB]
        rw [← e3] at K
        exact K
      · have d4 := Int32.not_le.mp d4
        rw [if_neg (fun z => z.2 d4), if_pos ⟨d, d2, d3⟩, if_pos d4] at h
        exact h f a hA (S4.rf f a)
    · rw [if_neg (fun z => d3 z.1.2.2), if_neg (fun z => d3 z.2.2)] at h
      exact h f a hA (S4.rf f a)
  · exact h.elim
theorem shX5_sheet : ∀ As f a Q, sX5_sheet As f a Q → ∃ i r, As = .inr (.inr (5, i, 0)) :: r := by
  intro As f a Q h
  unfold sX5_sheet at h
  split at h
  · exact ⟨_, _, rfl⟩
  · exact h.elim
theorem mX5_sheet {g : Gm} (hg : GmOK g) : MetC g yX5_sheet cX5_sheet 5 (some .int) 2 sX5_sheet := by
  refine MetC_of hg eX5_sheet (eokX5_sheet hg) (by decide +kernel) (fun av f a post h => ?_) rX5_sheet
  unfold sX5_sheet at h
  split at h
  · exact Nat.le_of_ble_eq_true rfl
  · exact h.elim
