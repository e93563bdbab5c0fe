/-! the reference: its rows, small methods -/
def wt (i k : Nat) : Nat := if i = 0 then (if k = 0 then 1 else 3) else if k = 0 then 9 else 27
def RM (w : Nat → Int32) (P : Pg) : Prop := w 3 = nI P.1.length ∧ w 100 = nI P.2.length ∧ (∀ i, i < P.1.length → w i = nI (ar P i)) ∧
  ∀ c, c < P.2.length → w (4 + 8 * c) = nI (fr P c) ∧ w (4 + 8 * c + 1) = nI (to P c) ∧ ∀ k, k < 2 → w (4 + 8 * c + (2 + 3 * k)) = nI (ag P c k / 100) ∧ w (4 + 8 * c + (2 + 3 * k + 1)) = nI (ag P c k / 10 % 10) ∧ w (4 + 8 * c + (2 + 3 * k + 2)) = nI (ag P c k % 10)
def sX5_in : SP := fun As f a Q => match As with
  | [.inr (.inl x), .inr (.inl y), .inr (.inl z)] => Q (some (.inl (b2i (decide (y ≤ x ∧ x ≤ z))))) f a
  | _ => False
def eX5_in : En := (tX5_in, [], fdX5, [], 1)
theorem eokX5_in {g : Gm} (hg : GmOK g) : EnvOK g 0 RX5 cX5_in (some .boolean) eX5_in := ⟨okX5_in, (fun _ _ _ _ h => by cases h), fdX5_ok, (fun _ _ h => by cases h), rfl⟩
theorem rX5_in (av : List AV) (f : FF) (a : AA) (post : PT) (h : sX5_in av f a post) (X : XT) (hX : Clo eX5_in post X) : X 0 (padL 6 (ent av)) [] f a := by
  unfold sX5_in at h
  split at h
  · rename_i x y z
    have h17 : ¬ (y ≤ x ∧ x ≤ z) → X 17 [some (.inr (.inl x)), none, some (.inr (.inl y)), none, some (.inr (.inl z)), none] [] f a := fun q => hX [] 20 _ _ _ _ _ (pF h (decide_eq_false q))
    refine hX [17] 40 _ _ _ _ _ ?_
    refine ⟨fun q => h17 (fun w => absurd w.1 (Int64.not_le.mpr ((lg_cmp_lt x y).mp q))), fun q => ⟨fun q2 => h17 (fun w => absurd w.2 (Int64.not_le.mpr ((lg_cmp_gt x z).mp q2))), fun q2 => ?_⟩⟩
    exact pT h (decide_eq_true ⟨Int64.not_lt.mp (fun w => q ((lg_cmp_lt x y).mpr w)), Int64.not_lt.mp (fun w => q2 ((lg_cmp_gt x z).mpr w))⟩)
  · exact h.elim
theorem mX5_in {g : Gm} (hg : GmOK g) : MetC g yX5_in cX5_in 6 (some .boolean) 0 sX5_in := by
  refine MetC_of hg eX5_in (eokX5_in hg) (by decide +kernel) (fun av f a post h => ?_) rX5_in
  unfold sX5_in at h
  split at h
  · exact Nat.le_of_ble_eq_true rfl
  · exact h.elim
def sX5_flag : SP := fun As f a Q => match As with
  | [.inl x] => Q (some (.inl (b2i (decide (¬ x = 0))))) f a
  | _ => False
def eX5_flag : En := (tX5_flag, [], fdX5, [], 0)
theorem eokX5_flag {g : Gm} (hg : GmOK g) : EnvOK g 0 RX5 cX5_flag (some .int) eX5_flag := ⟨okX5_flag, (fun _ _ _ _ h => by cases h), fdX5_ok, (fun _ _ h => by cases h), rfl⟩
theorem rX5_flag (av : List AV) (f : FF) (a : AA) (post : PT) (h : sX5_flag av f a post) (X : XT) (hX : Clo eX5_flag post X) : X 0 (padL 1 (ent av)) [] f a := by
  unfold sX5_flag at h
  split at h
  · refine hX [] 40 _ _ _ _ _ ?_
    refine ⟨fun q => pI h (b2i_f (decide_eq_false (fun z => z q))), fun q => pI h (b2i_t (decide_eq_true q))⟩
  · exact h.elim
theorem mX5_flag {g : Gm} (hg : GmOK g) : MetC g yX5_flag cX5_flag 1 (some .int) 0 sX5_flag := by
  refine MetC_of hg eX5_flag (eokX5_flag hg) (by decide +kernel) (fun av f a post h => ?_) rX5_flag
  unfold sX5_flag at h
  split at h
  · exact Nat.le_of_ble_eq_true rfl
  · exact h.elim
theorem in32 (x y z : Int32) : (y.toInt64 ≤ x.toInt64 ∧ x.toInt64 ≤ z.toInt64) ↔ (y ≤ x ∧ x ≤ z) := by
  rw [Int64.le_iff_toInt_le, Int64.le_iff_toInt_le, Int32.toInt_toInt64, Int32.toInt_toInt64, Int32.toInt_toInt64, Int32.le_iff_toInt_le, Int32.le_iff_toInt_le]
theorem in0 (x z : Int32) : ((0 : Int64) ≤ x.toInt64 ∧ x.toInt64 ≤ z.toInt64) ↔ (0 ≤ x ∧ x ≤ z) := in32 x 0 z
theorem le_pred {x : Int32} {n : Nat} (hn : n < 1000) : x ≤ nI n - 1 ↔ x < nI n := by
  rw [Int32.le_iff_toInt_le, Int32.lt_iff_toInt_lt, show (1 : Int32) = nI 1 from rfl, pk_sub_toInt (by omega) (by omega), nI_toInt (by omega)]
  omega
def sX5_isFun : SP := fun As f a Q => match As with
  | [.inr (.inr (5, 0, 0)), .inl x] => ∃ P, RM (a 5 0 0) P ∧ WF P ∧ Q (some (.inl (b2i (decide (0 ≤ x ∧ x < nI P.1.length))))) f a
  | _ => False
def eX5_isFun : En := (tX5_isFun, [(71, true, 3, sX5_in)], fdX5, [], 1)
theorem eokX5_isFun {g : Gm} (hg : GmOK g) : EnvOK g 1 RX5 cX5_isFun (some .boolean) eX5_isFun := ⟨okX5_isFun, fun _ _ _ _ h => as2_all (P := fun i v => CallOK g 1 RX5 i v.1 v.2.1 v.2.2) (l := eX5_isFun.2.1) ⟨callS_ok hg (mX5_in hg) kX5_in mlX5_71 qX5_in ⟨by decide, by decide⟩, trivial⟩ h, fdX5_ok, (fun _ _ h => by cases h), rfl⟩
theorem rX5_isFun (av : List AV) (f : FF) (a : AA) (post : PT) (h : sX5_isFun av f a post) (X : XT) (hX : Clo eX5_isFun post X) : X 0 (padL 2 (ent av)) [] f a := by
  unfold sX5_isFun at h
  split at h
  · rename_i x
    obtain ⟨P, hR, hW, h⟩ := h
    have hl := hW.1
    refine hX [] 40 _ _ _ _ _ ?_
    refine ⟨inA 101 (n := 3) rfl rfl (by decide) (by decide), ?_⟩
    refine pB h ?_
    show _ = b2i (decide ((0 : Int64) ≤ x.toInt64 ∧ x.toInt64 ≤ (a 5 0 0 3 - 1).toInt64))
    rw [hR.1]
    simp only [in0, le_pred (show P.1.length < 1000 by omega)]
  · exact h.elim
theorem shX5_isFun : ∀ As f a Q, sX5_isFun As f a Q → ∃ i r, As = .inr (.inr (5, i, 0)) :: r := by
  intro As f a Q h
  unfold sX5_isFun at h
  split at h
  · exact ⟨_, _, rfl⟩
  · exact h.elim
theorem mX5_isFun {g : Gm} (hg : GmOK g) : MetC g yX5_isFun cX5_isFun 2 (some .boolean) 1 sX5_isFun := by
  refine MetC_of hg eX5_isFun (eokX5_isFun hg) (by decide +kernel) (fun av f a post h => ?_) rX5_isFun
  unfold sX5_isFun at h
  split at h
  · exact Nat.le_of_ble_eq_true rfl
  · exact h.elim
def sX5_isCall : SP := fun As f a Q => match As with
  | [.inr (.inr (5, 0, 0)), .inl x] => ∃ P, RM (a 5 0 0) P ∧ WF P ∧ Q (some (.inl (b2i (decide (0 ≤ x ∧ x < nI P.2.length))))) f a
  | _ => False
def eX5_isCall : En := (tX5_isCall, [(71, true, 3, sX5_in)], fdX5, [], 1)
theorem eokX5_isCall {g : Gm} (hg : GmOK g) : EnvOK g 1 RX5 cX5_isCall (some .boolean) eX5_isCall := ⟨okX5_isCall, fun _ _ _ _ h => as2_all (P := fun i v => CallOK g 1 RX5 i v.1 v.2.1 v.2.2) (l := eX5_isCall.2.1) ⟨callS_ok hg (mX5_in hg) kX5_in mlX5_71 qX5_in ⟨by decide, by decide⟩, trivial⟩ h, fdX5_ok, (fun _ _ h => by cases h), rfl⟩
theorem rX5_isCall (av : List AV) (f : FF) (a : AA) (post : PT) (h : sX5_isCall av f a post) (X : XT) (hX : Clo eX5_isCall post X) : X 0 (padL 2 (ent av)) [] f a := by
  unfold sX5_isCall at h
  split at h
  · rename_i x
    obtain ⟨P, hR, hW, h⟩ := h
    have hl := hW.2.1
    refine hX [] 40 _ _ _ _ _ ?_
    refine ⟨inA 101 (n := 100) rfl rfl (by decide) (by decide), ?_⟩
    refine pB h ?_
    show _ = b2i (decide ((0 : Int64) ≤ x.toInt64 ∧ x.toInt64 ≤ (a 5 0 0 100 - 1).toInt64))
    rw [hR.2.1]
    simp only [in0, le_pred (show P.2.length < 1000 by omega)]
  · exact h.elim
theorem shX5_isCall : ∀ As f a Q, sX5_isCall As f a Q → ∃ i r, As = .inr (.inr (5, i, 0)) :: r := by
  intro As f a Q h
  unfold sX5_isCall at h
  split at h
  · exact ⟨_, _, rfl⟩
  · exact h.elim
theorem mX5_isCall {g : Gm} (hg : GmOK g) : MetC g yX5_isCall cX5_isCall 2 (some .boolean) 1 sX5_isCall := by
  refine MetC_of hg eX5_isCall (eokX5_isCall hg) (by decide +kernel) (fun av f a post h => ?_) rX5_isCall
  unfold sX5_isCall at h
  split at h
  · exact Nat.le_of_ble_eq_true rfl
  · exact h.elim
def sX5_of : SP := fun As f a Q => match As with
  | [.inr (.inr (5, 0, 0)), .inl c, .inl w] => ∃ n m, c = nI n ∧ w = nI m ∧ 4 + 8 * n + m < 101 ∧ Q (some (.inl (a 5 0 0 (4 + 8 * n + m)))) f a
  | _ => False
def eX5_of : En := (tX5_of, [], fdX5, [], 0)
theorem eokX5_of {g : Gm} (hg : GmOK g) : EnvOK g 0 RX5 cX5_of (some .int) eX5_of := ⟨okX5_of, (fun _ _ _ _ h => by cases h), fdX5_ok, (fun _ _ h => by cases h), rfl⟩
theorem ix8 (n m : Nat) : 4 + 8 * nI n + nI m = nI (4 + 8 * n + m) := by
  rw [show (4 : Int32) = nI 4 from rfl, show (8 : Int32) = nI 8 from rfl, nI_mul, nI_add, nI_add]
theorem rX5_of (av : List AV) (f : FF) (a : AA) (post : PT) (h : sX5_of av f a post) (X : XT) (hX : Clo eX5_of post X) : X 0 (padL 3 (ent av)) [] f a := by
  unfold sX5_of at h
  split at h
  · obtain ⟨n, m, rfl, rfl, hl, h⟩ := h
    refine hX [] 40 _ _ _ _ _ ?_
    refine ⟨inA 101 (ix8 n m) rfl hl (by decide), ?_⟩
    refine pI h ?_
    dsimp only
    rw [ix8, nI_clamp (by omega)]
  · exact h.elim
theorem shX5_of : ∀ As f a Q, sX5_of As f a Q → ∃ i r, As = .inr (.inr (5, i, 0)) :: r := by
  intro As f a Q h
  unfold sX5_of at h
  split at h
  · exact ⟨_, _, rfl⟩
  · exact h.elim
theorem mX5_of {g : Gm} (hg : GmOK g) : MetC g yX5_of cX5_of 3 (some .int) 0 sX5_of := by
  refine MetC_of hg eX5_of (eokX5_of hg) (by decide +kernel) (fun av f a post h => ?_) rX5_of
  unfold sX5_of at h
  split at h
  · exact Nat.le_of_ble_eq_true rfl
  · exact h.elim
def sX5_ofArgument : SP := fun As f a Q => match As with
  | [.inr (.inr (5, 0, 0)), .inl c, .inl k, .inl w] => ∃ n j m, c = nI n ∧ k = nI j ∧ w = nI m ∧ 4 + 8 * n + (2 + 3 * j + m) < 101 ∧ Q (some (.inl (a 5 0 0 (4 + 8 * n + (2 + 3 * j + m))))) f a
  | _ => False
def eX5_ofArgument : En := (tX5_ofArgument, [(139, false, 3, sX5_of)], fdX5, [], 0)
theorem eokX5_ofArgument {g : Gm} (hg : GmOK g) : EnvOK g 1 RX5 cX5_ofArgument (some .int) eX5_ofArgument := ⟨okX5_ofArgument, fun _ _ _ _ h => as2_all (P := fun i v => CallOK g 1 RX5 i v.1 v.2.1 v.2.2) (l := eX5_ofArgument.2.1) ⟨callV_ok (t := 5) hg (mX5_of hg) kX5_of mlX5_139 qX5_of.1 qX5_of.2 ⟨by decide, by decide⟩ ⟨_, _, rfl⟩ shX5_of, trivial⟩ h, fdX5_ok, (fun _ _ h => by cases h), rfl⟩
theorem rX5_ofArgument (av : List AV) (f : FF) (a : AA) (post : PT) (h : sX5_ofArgument av f a post) (X : XT) (hX : Clo eX5_ofArgument post X) : X 0 (padL 4 (ent av)) [] f a := by
  unfold sX5_ofArgument at h
  split at h
  · obtain ⟨n, j, m, rfl, rfl, rfl, hl, h⟩ := h
    refine hX [] 40 _ _ _ _ _ ?_
    exact ⟨n, 2 + 3 * j + m, rfl, by dsimp only; rw [show (2 : Int32) = nI 2 from rfl, show (3 : Int32) = nI 3 from rfl, nI_mul, nI_add, nI_add], hl, h⟩
  · exact h.elim
theorem shX5_ofArgument : ∀ As f a Q, sX5_ofArgument As f a Q → ∃ i r, As = .inr (.inr (5, i, 0)) :: r := by
  intro As f a Q h
  unfold sX5_ofArgument at h
  split at h
  · exact ⟨_, _, rfl⟩
  · exact h.elim
theorem mX5_ofArgument {g : Gm} (hg : GmOK g) : MetC g yX5_ofArgument cX5_ofArgument 4 (some .int) 1 sX5_ofArgument := by
  refine MetC_of hg eX5_ofArgument (eokX5_ofArgument hg) (by decide +kernel) (fun av f a post h => ?_) rX5_ofArgument
  unfold sX5_ofArgument at h
  split at h
  · exact Nat.le_of_ble_eq_true rfl
  · exact h.elim
def sX5_weightOf : SP := fun As f a Q => match As with
  | [.inl x, .inl y] => ∃ i k, x = nI i ∧ y = nI k ∧ i < 2 ∧ k < 2 ∧ Q (some (.inl (nI (wt i k)))) f a
  | _ => False
def eX5_weightOf : En := (tX5_weightOf, [], fdX5, [], 0)
theorem eokX5_weightOf {g : Gm} (hg : GmOK g) : EnvOK g 0 RX5 cX5_weightOf (some .int) eX5_weightOf := ⟨okX5_weightOf, (fun _ _ _ _ h => by cases h), fdX5_ok, (fun _ _ h => by cases h), rfl⟩
theorem rX5_weightOf (av : List AV) (f : FF) (a : AA) (post : PT) (h : sX5_weightOf av f a post) (X : XT) (hX : Clo eX5_weightOf post X) : X 0 (padL 2 (ent av)) [] f a := by
  unfold sX5_weightOf at h
  split at h
  · obtain ⟨i, k, rfl, rfl, hi, hk, h⟩ := h
    refine hX [] 40 _ _ _ _ _ ?_
    rcases (show i = 0 ∨ i = 1 by omega) with rfl | rfl
    · rcases (show k = 0 ∨ k = 1 by omega) with rfl | rfl
      · exact ⟨fun q => absurd rfl q, fun _ => ⟨fun q => absurd rfl q, fun _ => h⟩⟩
      · exact ⟨fun q => absurd rfl q, fun _ => ⟨fun _ => h, fun q => absurd q (by decide)⟩⟩
    · rcases (show k = 0 ∨ k = 1 by omega) with rfl | rfl
      · exact ⟨fun _ => ⟨fun q => absurd rfl q, fun _ => h⟩, fun q => absurd q (by decide)⟩
      · exact ⟨fun _ => ⟨fun _ => h, fun q => absurd q (by decide)⟩, fun q => absurd q (by decide)⟩
  · exact h.elim
theorem mX5_weightOf {g : Gm} (hg : GmOK g) : MetC g yX5_weightOf cX5_weightOf 2 (some .int) 0 sX5_weightOf := by
  refine MetC_of hg eX5_weightOf (eokX5_weightOf hg) (by decide +kernel) (fun av f a post h => ?_) rX5_weightOf
  unfold sX5_weightOf at h
  split at h
  · exact Nat.le_of_ble_eq_true rfl
  · exact h.elim
def sX5_slot : SP := fun As f a Q => match As with
  | [.inl x, .inl y, .inl z] => ∃ i k c, x = nI i ∧ y = nI k ∧ z = nI c ∧ Q (some (.inl (nI (81 * (3 * i + k) + c)))) f a
  | _ => False
def eX5_slot : En := (tX5_slot, [], fdX5, [], 0)
theorem eokX5_slot {g : Gm} (hg : GmOK g) : EnvOK g 0 RX5 cX5_slot (some .int) eX5_slot := ⟨okX5_slot, (fun _ _ _ _ h => by cases h), fdX5_ok, (fun _ _ h => by cases h), rfl⟩
theorem rX5_slot (av : List AV) (f : FF) (a : AA) (post : PT) (h : sX5_slot av f a post) (X : XT) (hX : Clo eX5_slot post X) : X 0 (padL 3 (ent av)) [] f a := by
  unfold sX5_slot at h
  split at h
  · obtain ⟨i, k, c, rfl, rfl, rfl, h⟩ := h
    refine hX [] 40 _ _ _ _ _ ?_
    refine pI h ?_
    dsimp only
    rw [show (81 : Int32) = nI 81 from rfl, show (3 : Int32) = nI 3 from rfl, nI_mul, nI_add, nI_mul, nI_add]
  · exact h.elim
theorem mX5_slot {g : Gm} (hg : GmOK g) : MetC g yX5_slot cX5_slot 3 (some .int) 0 sX5_slot := by
  refine MetC_of hg eX5_slot (eokX5_slot hg) (by decide +kernel) (fun av f a post h => ?_) rX5_slot
  unfold sX5_slot at h
  split at h
  · exact Nat.le_of_ble_eq_true rfl
  · exact h.elim
def sX5_relation : SP := fun As f a Q => match As with
  | [.inl c, .inl x, .inl y] => ∃ n i k, c = nI n ∧ x = nI i ∧ y = nI k ∧ n < 81 ∧ i < 2 ∧ k < 2 ∧ Q (some (.inl (nI (rl n i k)))) f a
  | _ => False
def eX5_relation : En := (tX5_relation, [(146, true, 2, sX5_weightOf)], fdX5, [], 0)
theorem eokX5_relation {g : Gm} (hg : GmOK g) : EnvOK g 1 RX5 cX5_relation (some .int) eX5_relation := ⟨okX5_relation, fun _ _ _ _ h => as2_all (P := fun i v => CallOK g 1 RX5 i v.1 v.2.1 v.2.2) (l := eX5_relation.2.1) ⟨callS_ok hg (mX5_weightOf hg) kX5_weightOf mlX5_146 qX5_weightOf ⟨by decide, by decide⟩, trivial⟩ h, fdX5_ok, (fun _ _ h => by cases h), rfl⟩
theorem wt_ok : ∀ i, i < 2 → ∀ k, k < 2 → 0 < wt i k ∧ wt i k < 28 := by decide
theorem rX5_relation (av : List AV) (f : FF) (a : AA) (post : PT) (h : sX5_relation av f a post) (X : XT) (hX : Clo eX5_relation post X) : X 0 (padL 3 (ent av)) [] f a := by
  unfold sX5_relation at h
  split at h
  · obtain ⟨n, i, k, rfl, rfl, rfl, hn, hi, hk, h⟩ := h
    obtain ⟨w0, w28⟩ := wt_ok i hi k hk
    refine hX [] 40 _ _ _ _ _ ?_
    refine ⟨i, k, rfl, rfl, hi, hk, nI_ne0 w0 (by omega), by decide, pI h ?_⟩
    dsimp only
    rw [pk_div (by omega) w0 (by omega)]
    exact (pk_rem (a := n / wt i k) (d := 3) (by have := Nat.div_le_self n (wt i k); omega) (by decide) (by decide)).symm
  · exact h.elim
theorem mX5_relation {g : Gm} (hg : GmOK g) : MetC g yX5_relation cX5_relation 3 (some .int) 1 sX5_relation := by
  refine MetC_of hg eX5_relation (eokX5_relation hg) (by decide +kernel) (fun av f a post h => ?_) rX5_relation
  unfold sX5_relation at h
  split at h
  · exact Nat.le_of_ble_eq_true rfl
  · exact h.elim
theorem ag_lt5 {P : Pg} (hW : WF P) {c : Nat} (hc : c < P.2.length) (k : Nat) : ag P c k < 500 := by
  obtain ⟨h1, h2, h3, h4⟩ := hW.2.2.2 c hc
  have u : ∀ n x, okA n x = true → x < 500 := fun n x z => by
    unfold okA at z
    exact of_decide_eq_true (Bool.and_eq_true _ _ ▸ z : _ ∧ _).1
  unfold ag agq
  split
  · exact u _ _ h3
  · split at h4
    · exact u _ _ h4
    · rw [h4]
      decide
theorem RM.ix {w : Nat → Int32} {P : Pg} (h : RM w P) (hW : WF P) {c : Nat} (hc : c < P.2.length) : c < 12 := by have := hW.2.1; omega
def sX5_relationOf : SP := fun As f a Q => match As with
  | [.inr (.inr (5, 0, 0)), .inl c, .inl x, .inl y] => ∃ P n i k, RM (a 5 0 0) P ∧ WF P ∧ c = nI n ∧ x = nI i ∧ y = nI k ∧ n < P.2.length ∧ i < 2 ∧ k < 2 ∧ Q (some (.inl (nI (rel P n i k)))) f a
  | _ => False
def eX5_relationOf : En := (tX5_relationOf, [(142, false, 4, sX5_ofArgument)], fdX5, [], 0)
theorem eokX5_relationOf {g : Gm} (hg : GmOK g) : EnvOK g 2 RX5 cX5_relationOf (some .int) eX5_relationOf := ⟨okX5_relationOf, fun _ _ _ _ h => as2_all (P := fun i v => CallOK g 2 RX5 i v.1 v.2.1 v.2.2) (l := eX5_relationOf.2.1) ⟨callV_ok (t := 5) hg (mX5_ofArgument hg) kX5_ofArgument mlX5_142 qX5_ofArgument.1 qX5_ofArgument.2 ⟨by decide, by decide⟩ ⟨_, _, rfl⟩ shX5_ofArgument, trivial⟩ h, fdX5_ok, (fun _ _ h => by cases h), rfl⟩
theorem rX5_relationOf (av : List AV) (f : FF) (a : AA) (post : PT) (h : sX5_relationOf av f a post) (X : XT) (hX : Clo eX5_relationOf post X) : X 0 (padL 6 (ent av)) [] f a := by
  unfold sX5_relationOf at h
  split at h
  · obtain ⟨P, n, i, k, hR, hW, rfl, rfl, rfl, hn, hi, hk, h⟩ := h
    have n12 := hR.ix hW hn
    obtain ⟨r0, r1, r2⟩ := (hR.2.2.2 n hn).2.2 k hk
    have hx := ag_lt5 hW hn k
    unfold rel at h
    obtain ⟨x, ex⟩ : ∃ x, x = ag P n k := ⟨_, rfl⟩
    rw [← ex] at hx h r0 r1 r2
    unfold relN at h
    have c0 : ∀ m, m < 10 → (a 5 0 0 (4 + 8 * n + (2 + 3 * k + 0)) = nI m ↔ x / 100 = m) := fun m hm => i_eq r0 rfl (by omega) (by omega)
    have c1 : a 5 0 0 (4 + 8 * n + (2 + 3 * k + 1)) = nI i ↔ x / 10 % 10 = i := i_eq r1 rfl (by omega) (by omega)
    have l2 : ∀ m, m < 10 → (a 5 0 0 (4 + 8 * n + (2 + 3 * k + 2)) ≤ nI m ↔ x % 10 ≤ m) := fun m hm => i_le r2 rfl (by omega) (by omega)
    have c2 : a 5 0 0 (4 + 8 * n + (2 + 3 * k + 2)) = nI 0 ↔ x % 10 = 0 := i_eq r2 rfl (by omega) (by decide)
    refine hX [42] 90 _ _ _ _ _ ?_
    refine ⟨n, k, 0, rfl, rfl, rfl, by omega, n, k, 2, rfl, rfl, rfl, by omega, ?_⟩
    refine ⟨fun q4 => ?_, fun q4 => ?_⟩
    · have q4 : ¬ x / 100 = 4 := fun z => q4 ((c0 4 (by decide)).mpr z)
      rw [if_neg q4] at h
      have h42 : ∀ z1 z2, (x / 100 = 0 ∨ ¬ x / 10 % 10 = i) → X 42 [some (.inr (.inr (5, 0, 0))), some (.inl (nI n)), some (.inl (nI i)), some (.inl (nI k)), z1, z2] [] f a := fun z1 z2 z => by
        rw [if_pos z] at h
        exact hX [] 20 _ _ _ _ _ h
      refine ⟨fun q0 => h42 _ _ (Or.inl ((c0 0 (by decide)).mp q0)), fun q0 => ?_⟩
      have q0 : ¬ x / 100 = 0 := fun z => q0 ((c0 0 (by decide)).mpr z)
      refine ⟨n, k, 1, rfl, rfl, rfl, by omega, ⟨fun q1 => ?_, fun q1 => h42 _ _ (Or.inr (fun z => q1 (c1.mpr z)))⟩⟩
      have q1 := c1.mp q1
      rw [if_neg (fun z => z.elim q0 (fun y => y q1))] at h
      refine ⟨fun p1 => ?_, fun p1 => ?_⟩
      · have p1 : ¬ x / 100 = 1 := fun z => p1 ((c0 1 (by decide)).mpr z)
        rw [if_neg p1] at h
        refine ⟨fun p2 => ?_, fun p2 => ?_⟩
        · have p2 : ¬ x / 100 = 2 := fun z => p2 ((c0 2 (by decide)).mpr z)
          rw [if_neg p2] at h
          refine ⟨fun p3 => ?_, fun p3 => ?_⟩
          · rw [if_neg (fun z => p3 (c2.mpr z))] at h
            exact h
          · rw [if_pos (c2.mp p3)] at h
            exact h
        · have p2 : x / 100 = 2 := (c0 2 (by decide)).mp p2
          rw [if_pos p2] at h
          refine ⟨fun p3 => ?_, fun p3 => ?_⟩
          · have p3 := (l2 1 (by decide)).mp p3
            rw [if_neg (by omega)] at h
            exact h
          · have p3 : ¬ x % 10 ≤ 1 := fun z => p3 ((l2 1 (by decide)).mpr z)
            rw [if_pos (by omega)] at h
            exact h
      · have p1 : x / 100 = 1 := (c0 1 (by decide)).mp p1
        rw [if_pos p1] at h
        refine ⟨fun p3 => ?_, fun p3 => ?_⟩
        · have p3 := (l2 0 (by decide)).mp p3
          rw [if_neg (by omega)] at h
          exact h
        · have p3 : ¬ x % 10 ≤ 0 := fun z => p3 ((l2 0 (by decide)).mpr z)
          rw [if_pos (by omega)] at h
          exact h
    · have q4 : x / 100 = 4 := (c0 4 (by decide)).mp q4
      rw [if_pos q4] at h
      exact h
  · exact h.elim
theorem shX5_relationOf : ∀ As f a Q, sX5_relationOf As f a Q → ∃ i r, As = .inr (.inr (5, i, 0)) :: r := by
  intro As f a Q h
  unfold sX5_relationOf at h
  split at h
  · exact ⟨_, _, rfl⟩
  · exact h.elim
theorem mX5_relationOf {g : Gm} (hg : GmOK g) : MetC g yX5_relationOf cX5_relationOf 6 (some .int) 2 sX5_relationOf := by
  refine MetC_of hg eX5_relationOf (eokX5_relationOf hg) (by decide +kernel) (fun av f a post h => ?_) rX5_relationOf
  unfold sX5_relationOf at h
  split at h
  · exact Nat.le_of_ble_eq_true rfl
  · exact h.elim
