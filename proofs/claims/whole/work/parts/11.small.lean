/-! the system's small methods -/
def sX4_bit : SP := fun As f a Q => match As with
  | [.inl x] => Q (some (.inl (b2i (decide (¬ x = 0))))) f a
  | _ => False
def eX4_bit : En := (tX4_bit, [], fdX4, [], 0)
theorem eokX4_bit {g : Gm} (hg : GmOK g) : EnvOK g 0 RX4 cX4_bit (some .int) eX4_bit := ⟨okX4_bit, (fun _ _ _ _ h => by cases h), fdX4_ok, (fun _ _ h => by cases h), rfl⟩
theorem rX4_bit (av : List AV) (f : FF) (a : AA) (post : PT) (h : sX4_bit av f a post) (X : XT) (hX : Clo eX4_bit post X) : X 0 (padL 1 (ent av)) [] f a := by
  unfold sX4_bit at h
  split at h
  · refine hX [] 20 _ _ _ _ _ ?_
    refine ⟨fun c => ?_, fun c => ?_⟩
    · exact pI h (b2i_f (by simp [c]))
    · exact pI h (b2i_t (by simp [c]))
  · exact h.elim
theorem mX4_bit {g : Gm} (hg : GmOK g) : MetC g yX4_bit cX4_bit 1 (some .int) 0 sX4_bit := by
  refine MetC_of hg eX4_bit (eokX4_bit hg) (by decide +kernel) (fun av f a post h => ?_) rX4_bit
  unfold sX4_bit at h
  split at h
  · exact Nat.le_of_ble_eq_true rfl
  · exact h.elim
def sX4_orNone : SP := fun As f a Q => match As with
  | [.inl x] => Q (some (.inl (if x < 0 then -4 else x))) f a
  | _ => False
def eX4_orNone : En := (tX4_orNone, [], fdX4, [], 0)
theorem eokX4_orNone {g : Gm} (hg : GmOK g) : EnvOK g 0 RX4 cX4_orNone (some .int) eX4_orNone := ⟨okX4_orNone, (fun _ _ _ _ h => by cases h), fdX4_ok, (fun _ _ h => by cases h), rfl⟩
theorem rX4_orNone (av : List AV) (f : FF) (a : AA) (post : PT) (h : sX4_orNone av f a post) (X : XT) (hX : Clo eX4_orNone post X) : X 0 (padL 1 (ent av)) [] f a := by
  unfold sX4_orNone at h
  split at h
  · refine hX [] 20 _ _ _ _ _ ?_
    refine ⟨fun c => ?_, fun c => ?_⟩
    · exact pI h (if_neg (Int32.not_lt.mpr c))
    · exact pI h (if_pos (Int32.not_le.mp c))
  · exact h.elim
theorem mX4_orNone {g : Gm} (hg : GmOK g) : MetC g yX4_orNone cX4_orNone 1 (some .int) 0 sX4_orNone := by
  refine MetC_of hg eX4_orNone (eokX4_orNone hg) (by decide +kernel) (fun av f a post h => ?_) rX4_orNone
  unfold sX4_orNone at h
  split at h
  · exact Nat.le_of_ble_eq_true rfl
  · exact h.elim
def sX4_isImage : SP := fun As f a Q => match As with
  | [.inl x] => Q (some (.inl (b2i (decide (0 ≤ x ∧ x < 2))))) f a
  | _ => False
def eX4_isImage : En := (tX4_isImage, [], fdX4, [], 1)
theorem eokX4_isImage {g : Gm} (hg : GmOK g) : EnvOK g 0 RX4 cX4_isImage (some .boolean) eX4_isImage := ⟨okX4_isImage, (fun _ _ _ _ h => by cases h), fdX4_ok, (fun _ _ h => by cases h), rfl⟩
theorem rX4_isImage (av : List AV) (f : FF) (a : AA) (post : PT) (h : sX4_isImage av f a post) (X : XT) (hX : Clo eX4_isImage post X) : X 0 (padL 1 (ent av)) [] f a := by
  unfold sX4_isImage at h
  split at h
  · refine hX [] 20 _ _ _ _ _ ?_
    refine ⟨fun c => ?_, fun c => ⟨fun d => ?_, fun d => ?_⟩⟩
    · exact pF h (by simp [Int32.not_le.mpr c])
    · exact pF h (by simp [Int32.not_lt.mpr d])
    · exact pT h (by simp [Int32.not_lt.mp c, Int32.not_le.mp d])
  · exact h.elim
theorem mX4_isImage {g : Gm} (hg : GmOK g) : MetC g yX4_isImage cX4_isImage 1 (some .boolean) 0 sX4_isImage := by
  refine MetC_of hg eX4_isImage (eokX4_isImage hg) (by decide +kernel) (fun av f a post h => ?_) rX4_isImage
  unfold sX4_isImage at h
  split at h
  · exact Nat.le_of_ble_eq_true rfl
  · exact h.elim
def sX4_isSheet : SP := fun As f a Q => match As with
  | [.inl x] => Q (some (.inl (b2i (decide (0 ≤ x ∧ x < 4))))) f a
  | _ => False
def eX4_isSheet : En := (tX4_isSheet, [], fdX4, [], 1)
theorem eokX4_isSheet {g : Gm} (hg : GmOK g) : EnvOK g 0 RX4 cX4_isSheet (some .boolean) eX4_isSheet := ⟨okX4_isSheet, (fun _ _ _ _ h => by cases h), fdX4_ok, (fun _ _ h => by cases h), rfl⟩
theorem rX4_isSheet (av : List AV) (f : FF) (a : AA) (post : PT) (h : sX4_isSheet av f a post) (X : XT) (hX : Clo eX4_isSheet post X) : X 0 (padL 1 (ent av)) [] f a := by
  unfold sX4_isSheet at h
  split at h
  · refine hX [] 20 _ _ _ _ _ ?_
    refine ⟨fun c => ?_, fun c => ⟨fun d => ?_, fun d => ?_⟩⟩
    · exact pF h (by simp [Int32.not_le.mpr c])
    · exact pF h (by simp [Int32.not_lt.mpr d])
    · exact pT h (by simp [Int32.not_lt.mp c, Int32.not_le.mp d])
  · exact h.elim
theorem mX4_isSheet {g : Gm} (hg : GmOK g) : MetC g yX4_isSheet cX4_isSheet 1 (some .boolean) 0 sX4_isSheet := by
  refine MetC_of hg eX4_isSheet (eokX4_isSheet hg) (by decide +kernel) (fun av f a post h => ?_) rX4_isSheet
  unfold sX4_isSheet at h
  split at h
  · exact Nat.le_of_ble_eq_true rfl
  · exact h.elim
def sX4_isLane : SP := fun As f a Q => match As with
  | [.inl x] => Q (some (.inl (b2i (decide (0 ≤ x ∧ x ≤ 2))))) f a
  | _ => False
def eX4_isLane : En := (tX4_isLane, [], fdX4, [], 1)
theorem eokX4_isLane {g : Gm} (hg : GmOK g) : EnvOK g 0 RX4 cX4_isLane (some .boolean) eX4_isLane := ⟨okX4_isLane, (fun _ _ _ _ h => by cases h), fdX4_ok, (fun _ _ h => by cases h), rfl⟩
theorem rX4_isLane (av : List AV) (f : FF) (a : AA) (post : PT) (h : sX4_isLane av f a post) (X : XT) (hX : Clo eX4_isLane post X) : X 0 (padL 1 (ent av)) [] f a := by
  unfold sX4_isLane at h
  split at h
  · refine hX [] 20 _ _ _ _ _ ?_
    refine ⟨fun c => ?_, fun c => ⟨fun d => ?_, fun d => ?_⟩⟩
    · exact pF h (by simp [Int32.not_le.mpr c])
    · exact pF h (by simp [Int32.not_le.mpr d])
    · exact pT h (by simp [Int32.not_lt.mp c, Int32.not_lt.mp d])
  · exact h.elim
theorem mX4_isLane {g : Gm} (hg : GmOK g) : MetC g yX4_isLane cX4_isLane 1 (some .boolean) 0 sX4_isLane := by
  refine MetC_of hg eX4_isLane (eokX4_isLane hg) (by decide +kernel) (fun av f a post h => ?_) rX4_isLane
  unfold sX4_isLane at h
  split at h
  · exact Nat.le_of_ble_eq_true rfl
  · exact h.elim
def sX4_kindOf : SP := fun As f a Q => match As with
  | [.inl x] => ∃ n, n < 2 ^ 31 ∧ x = nI n ∧ Q (some (.inl (nI (n / 100)))) f a
  | _ => False
def eX4_kindOf : En := (tX4_kindOf, [], fdX4, [], 0)
theorem eokX4_kindOf {g : Gm} (hg : GmOK g) : EnvOK g 0 RX4 cX4_kindOf (some .int) eX4_kindOf := ⟨okX4_kindOf, (fun _ _ _ _ h => by cases h), fdX4_ok, (fun _ _ h => by cases h), rfl⟩
theorem rX4_kindOf (av : List AV) (f : FF) (a : AA) (post : PT) (h : sX4_kindOf av f a post) (X : XT) (hX : Clo eX4_kindOf post X) : X 0 (padL 1 (ent av)) [] f a := by
  unfold sX4_kindOf at h
  split at h
  · obtain ⟨n, hn, rfl, h⟩ := h
    refine hX [] 20 _ _ _ _ _ ?_
    exact ⟨by decide, pI h (pk_div (d := 100) hn (by decide) (by decide)).symm⟩
  · exact h.elim
theorem mX4_kindOf {g : Gm} (hg : GmOK g) : MetC g yX4_kindOf cX4_kindOf 1 (some .int) 0 sX4_kindOf := by
  refine MetC_of hg eX4_kindOf (eokX4_kindOf hg) (by decide +kernel) (fun av f a post h => ?_) rX4_kindOf
  unfold sX4_kindOf at h
  split at h
  · exact Nat.le_of_ble_eq_true rfl
  · exact h.elim
def sX4_valueOf : SP := fun As f a Q => match As with
  | [.inl x] => ∃ n, n < 2 ^ 31 ∧ x = nI n ∧ Q (some (.inl (nI (n / 10 % 10)))) f a
  | _ => False
def eX4_valueOf : En := (tX4_valueOf, [], fdX4, [], 0)
theorem eokX4_valueOf {g : Gm} (hg : GmOK g) : EnvOK g 0 RX4 cX4_valueOf (some .int) eX4_valueOf := ⟨okX4_valueOf, (fun _ _ _ _ h => by cases h), fdX4_ok, (fun _ _ h => by cases h), rfl⟩
theorem rX4_valueOf (av : List AV) (f : FF) (a : AA) (post : PT) (h : sX4_valueOf av f a post) (X : XT) (hX : Clo eX4_valueOf post X) : X 0 (padL 1 (ent av)) [] f a := by
  unfold sX4_valueOf at h
  split at h
  · obtain ⟨n, hn, rfl, h⟩ := h
    refine hX [] 20 _ _ _ _ _ ?_
    refine ⟨by decide, by decide, pI h ?_⟩
    have h1 : nI n / 10 = nI (n / 10) := pk_div (d := 10) hn (by decide) (by decide)
    dsimp only
    rw [h1]
    exact (pk_rem (d := 10) (by omega) (by decide) (by decide)).symm
  · exact h.elim
theorem mX4_valueOf {g : Gm} (hg : GmOK g) : MetC g yX4_valueOf cX4_valueOf 1 (some .int) 0 sX4_valueOf := by
  refine MetC_of hg eX4_valueOf (eokX4_valueOf hg) (by decide +kernel) (fun av f a post h => ?_) rX4_valueOf
  unfold sX4_valueOf at h
  split at h
  · exact Nat.le_of_ble_eq_true rfl
  · exact h.elim
def sX4_numberOf : SP := fun As f a Q => match As with
  | [.inl x] => ∃ n, n < 2 ^ 31 ∧ x = nI n ∧ Q (some (.inl (nI (n % 10)))) f a
  | _ => False
def eX4_numberOf : En := (tX4_numberOf, [], fdX4, [], 0)
theorem eokX4_numberOf {g : Gm} (hg : GmOK g) : EnvOK g 0 RX4 cX4_numberOf (some .int) eX4_numberOf := ⟨okX4_numberOf, (fun _ _ _ _ h => by cases h), fdX4_ok, (fun _ _ h => by cases h), rfl⟩
theorem rX4_numberOf (av : List AV) (f : FF) (a : AA) (post : PT) (h : sX4_numberOf av f a post) (X : XT) (hX : Clo eX4_numberOf post X) : X 0 (padL 1 (ent av)) [] f a := by
  unfold sX4_numberOf at h
  split at h
  · obtain ⟨n, hn, rfl, h⟩ := h
    refine hX [] 20 _ _ _ _ _ ?_
    exact ⟨by decide, pI h (pk_rem (d := 10) hn (by decide) (by decide)).symm⟩
  · exact h.elim
theorem mX4_numberOf {g : Gm} (hg : GmOK g) : MetC g yX4_numberOf cX4_numberOf 1 (some .int) 0 sX4_numberOf := by
  refine MetC_of hg eX4_numberOf (eokX4_numberOf hg) (by decide +kernel) (fun av f a post h => ?_) rX4_numberOf
  unfold sX4_numberOf at h
  split at h
  · exact Nat.le_of_ble_eq_true rfl
  · exact h.elim
def sX4_argumentOf : SP := fun As f a Q => match As with
  | [.inl x, .inl y, .inl z] => Q (some (.inl (100 * x + 10 * y + z))) f a
  | _ => False
def eX4_argumentOf : En := (tX4_argumentOf, [], fdX4, [], 0)
theorem eokX4_argumentOf {g : Gm} (hg : GmOK g) : EnvOK g 0 RX4 cX4_argumentOf (some .int) eX4_argumentOf := ⟨okX4_argumentOf, (fun _ _ _ _ h => by cases h), fdX4_ok, (fun _ _ h => by cases h), rfl⟩
theorem rX4_argumentOf (av : List AV) (f : FF) (a : AA) (post : PT) (h : sX4_argumentOf av f a post) (X : XT) (hX : Clo eX4_argumentOf post X) : X 0 (padL 3 (ent av)) [] f a := by
  unfold sX4_argumentOf at h
  split at h
  · refine hX [] 20 _ _ _ _ _ ?_
    exact pI h rfl
  · exact h.elim
theorem mX4_argumentOf {g : Gm} (hg : GmOK g) : MetC g yX4_argumentOf cX4_argumentOf 3 (some .int) 0 sX4_argumentOf := by
  refine MetC_of hg eX4_argumentOf (eokX4_argumentOf hg) (by decide +kernel) (fun av f a post h => ?_) rX4_argumentOf
  unfold sX4_argumentOf at h
  split at h
  · exact Nat.le_of_ble_eq_true rfl
  · exact h.elim
