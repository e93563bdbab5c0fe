/-! Program: leaves -/
theorem nxX0_98 {g : Gm} (hg : GmOK g) : ∀ U, gG g U → va_Nw (.methodLinkNest RX0 98 yX4_bit "FallingCalls") U := fun U hU => (hg.2.2.2.2 U hU).1 _ (List.mem_filter.mpr ⟨List.mem_of_getElem? (i := 466) (by decide +kernel), rfl⟩)
theorem nxX1_53 {g : Gm} (hg : GmOK g) : ∀ U, gG g U → va_Nw (.methodLinkNest RX1 53 yX4_kindOf "FallingCalls") U := fun U hU => (hg.2.2.2.2 U hU).1 _ (List.mem_filter.mpr ⟨List.mem_of_getElem? (i := 421) (by decide +kernel), rfl⟩)
theorem nxX1_57 {g : Gm} (hg : GmOK g) : ∀ U, gG g U → va_Nw (.methodLinkNest RX1 57 yX4_valueOf "FallingCalls") U := fun U hU => (hg.2.2.2.2 U hU).1 _ (List.mem_filter.mpr ⟨List.mem_of_getElem? (i := 427) (by decide +kernel), rfl⟩)
theorem nxX1_60 {g : Gm} (hg : GmOK g) : ∀ U, gG g U → va_Nw (.methodLinkNest RX1 60 yX4_numberOf "FallingCalls") U := fun U hU => (hg.2.2.2.2 U hU).1 _ (List.mem_filter.mpr ⟨List.mem_of_getElem? (i := 424) (by decide +kernel), rfl⟩)
theorem nxX1_63 {g : Gm} (hg : GmOK g) : ∀ U, gG g U → va_Nw (.methodLinkNest RX1 63 yX4_argumentOf "FallingCalls") U := fun U hU => (hg.2.2.2.2 U hU).1 _ (List.mem_filter.mpr ⟨List.mem_of_getElem? (i := 601) (by decide +kernel), rfl⟩)
theorem nxX1_67 {g : Gm} (hg : GmOK g) : ∀ U, gG g U → va_Nw (.methodLinkNest RX1 67 yX4_bit "FallingCalls") U := fun U hU => (hg.2.2.2.2 U hU).1 _ (List.mem_filter.mpr ⟨List.mem_of_getElem? (i := 430) (by decide +kernel), rfl⟩)
theorem nxX3_81 {g : Gm} (hg : GmOK g) : ∀ U, gG g U → va_Nw (.methodLinkNest RX3 81 yX4_argumentOf "FallingCalls") U := fun U hU => (hg.2.2.2.2 U hU).1 _ (List.mem_filter.mpr ⟨List.mem_of_getElem? (i := 367) (by decide +kernel), rfl⟩)
theorem nxX3_96 {g : Gm} (hg : GmOK g) : ∀ U, gG g U → va_Nw (.methodLinkNest RX3 96 yX4_bit "FallingCalls") U := fun U hU => (hg.2.2.2.2 U hU).1 _ (List.mem_filter.mpr ⟨List.mem_of_getElem? (i := 376) (by decide +kernel), rfl⟩)
def sX1_clear : SP := fun As f a Q => match As with
  | [.inr (.inr (1, p, 0))] => Q none (upf (upf f 1 p 4 0) 1 p 5 0) a
  | _ => False
def eX1_clear : En := (tX1_clear, [], fdX1, [], 2)
theorem eokX1_clear {g : Gm} (hg : GmOK g) : EnvOK g 0 RX1 cX1_clear none eX1_clear := ⟨okX1_clear, (fun _ _ _ _ h => by cases h), fdX1_ok, (fun _ _ h => by cases h), rfl⟩
theorem rX1_clear (av : List AV) (f : FF) (a : AA) (post : PT) (h : sX1_clear av f a post) (X : XT) (hX : Clo eX1_clear post X) : X 0 (padL 1 (ent av)) [] f a := by
  unfold sX1_clear at h
  split at h
  · exact hX [] 20 _ _ _ _ _ h
  · exact h.elim
theorem shX1_clear : ∀ As f a Q, sX1_clear As f a Q → ∃ i r, As = .inr (.inr (1, i, 0)) :: r := by
  intro As f a Q h
  unfold sX1_clear at h
  split at h
  · exact ⟨_, _, rfl⟩
  · exact h.elim
theorem mX1_clear {g : Gm} (hg : GmOK g) : MetC g yX1_clear cX1_clear 1 none 0 sX1_clear := by
  refine MetC_of hg eX1_clear (eokX1_clear hg) (by decide +kernel) (fun av f a post h => ?_) rX1_clear
  unfold sX1_clear at h
  split at h
  · exact Nat.le_of_ble_eq_true rfl
  · exact h.elim
def sX1_hasFunction : SP := fun As f a Q => match As with
  | [.inr (.inr (1, p, 0)), .inl x] => Q (some (.inl (b2i (decide (0 ≤ x ∧ x < f 1 p 4))))) f a
  | _ => False
def eX1_hasFunction : En := (tX1_hasFunction, [], fdX1, [], 1)
theorem eokX1_hasFunction {g : Gm} (hg : GmOK g) : EnvOK g 0 RX1 cX1_hasFunction (some .boolean) eX1_hasFunction := ⟨okX1_hasFunction, (fun _ _ _ _ h => by cases h), fdX1_ok, (fun _ _ h => by cases h), rfl⟩
theorem rX1_hasFunction (av : List AV) (f : FF) (a : AA) (post : PT) (h : sX1_hasFunction av f a post) (X : XT) (hX : Clo eX1_hasFunction post X) : X 0 (padL 2 (ent av)) [] f a := by
  unfold sX1_hasFunction at h
  split at h
  · refine hX [] 20 _ _ _ _ _ ?_
    refine ⟨fun c => ?_, fun c => ⟨fun d => ?_, fun d => ?_⟩⟩
    · exact pF h (by simp [Int32.not_le.mpr c])
    · exact pF h (by simp [Int32.not_lt.mpr d])
    · exact pT h (by simp [Int32.not_lt.mp c, Int32.not_le.mp d])
  · exact h.elim
theorem shX1_hasFunction : ∀ As f a Q, sX1_hasFunction As f a Q → ∃ i r, As = .inr (.inr (1, i, 0)) :: r := by
  intro As f a Q h
  unfold sX1_hasFunction at h
  split at h
  · exact ⟨_, _, rfl⟩
  · exact h.elim
theorem mX1_hasFunction {g : Gm} (hg : GmOK g) : MetC g yX1_hasFunction cX1_hasFunction 2 (some .boolean) 0 sX1_hasFunction := by
  refine MetC_of hg eX1_hasFunction (eokX1_hasFunction hg) (by decide +kernel) (fun av f a post h => ?_) rX1_hasFunction
  unfold sX1_hasFunction at h
  split at h
  · exact Nat.le_of_ble_eq_true rfl
  · exact h.elim
def sX1_hasCall : SP := fun As f a Q => match As with
  | [.inr (.inr (1, p, 0)), .inl x] => Q (some (.inl (b2i (decide (0 ≤ x ∧ x < f 1 p 5))))) f a
  | _ => False
def eX1_hasCall : En := (tX1_hasCall, [], fdX1, [], 1)
theorem eokX1_hasCall {g : Gm} (hg : GmOK g) : EnvOK g 0 RX1 cX1_hasCall (some .boolean) eX1_hasCall := ⟨okX1_hasCall, (fun _ _ _ _ h => by cases h), fdX1_ok, (fun _ _ h => by cases h), rfl⟩
theorem rX1_hasCall (av : List AV) (f : FF) (a : AA) (post : PT) (h : sX1_hasCall av f a post) (X : XT) (hX : Clo eX1_hasCall post X) : X 0 (padL 2 (ent av)) [] f a := by
  unfold sX1_hasCall at h
  split at h
  · refine hX [] 20 _ _ _ _ _ ?_
    refine ⟨fun c => ?_, fun c => ⟨fun d => ?_, fun d => ?_⟩⟩
    · exact pF h (by simp [Int32.not_le.mpr c])
    · exact pF h (by simp [Int32.not_lt.mpr d])
    · exact pT h (by simp [Int32.not_lt.mp c, Int32.not_le.mp d])
  · exact h.elim
theorem shX1_hasCall : ∀ As f a Q, sX1_hasCall As f a Q → ∃ i r, As = .inr (.inr (1, i, 0)) :: r := by
  intro As f a Q h
  unfold sX1_hasCall at h
  split at h
  · exact ⟨_, _, rfl⟩
  · exact h.elim
theorem mX1_hasCall {g : Gm} (hg : GmOK g) : MetC g yX1_hasCall cX1_hasCall 2 (some .boolean) 0 sX1_hasCall := by
  refine MetC_of hg eX1_hasCall (eokX1_hasCall hg) (by decide +kernel) (fun av f a post h => ?_) rX1_hasCall
  unfold sX1_hasCall at h
  split at h
  · exact Nat.le_of_ble_eq_true rfl
  · exact h.elim
/-- whether there is an argument k of a call c -/
def hasA (P : Pg) (c k : Int32) : Bool := decide (0 ≤ c ∧ c < nI P.2.length) && decide (0 ≤ k ∧ k < nI (ar P (to P c.toNatClampNeg)))
def sX1_hasArgument : SP := fun As f a Q => match As with
  | [.inr (.inr (1, p, 0)), .inl c, .inl k] => ∃ P, RC (f 1 p) (a 1 p) P ∧ WF P ∧ Q (some (.inl (b2i (hasA P c k)))) f a
  | _ => False
def eX1_hasArgument : En := (tX1_hasArgument, [(37, false, 2, sX1_hasCall)], fdX1, [], 1)
theorem eokX1_hasArgument {g : Gm} (hg : GmOK g) : EnvOK g 1 RX1 cX1_hasArgument (some .boolean) eX1_hasArgument := ⟨okX1_hasArgument, fun _ _ _ _ h => as2_all (P := fun i v => CallOK g 1 RX1 i v.1 v.2.1 v.2.2) (l := eX1_hasArgument.2.1) ⟨callV_ok (t := 1) hg (mX1_hasCall hg) kX1_hasCall mlX1_37 qX1_hasCall.1 qX1_hasCall.2 ⟨by decide, by decide⟩ ⟨_, _, rfl⟩ shX1_hasCall, trivial⟩ h, fdX1_ok, (fun _ _ h => by cases h), rfl⟩
theorem rX1_hasArgument (av : List AV) (f : FF) (a : AA) (post : PT) (h : sX1_hasArgument av f a post) (X : XT) (hX : Clo eX1_hasArgument post X) : X 0 (padL 3 (ent av)) [] f a := by
  unfold sX1_hasArgument at h
  split at h
  · rename_i p c k
    obtain ⟨P, hR, hW, h⟩ := h
    refine hX [] 40 _ _ _ _ _ ?_
    refine ⟨fun q => ?_, fun q => ⟨fun d => ?_, fun d => ?_⟩⟩
    · have q := b2i_e0.mp q
      rw [hR.2.1] at q
      exact pF h (by simp only [hasA, q, Bool.false_and])
    · exact pF h (by simp [hasA, Int32.not_le.mpr d])
    · have q := b2i_n0.mp q
      rw [hR.2.1] at q
      have q2 := of_decide_eq_true q
      obtain ⟨n, hn, rfl⟩ := ge0 (Int32.not_lt.mpr q2.1)
      have hc : n < P.2.length := (nI_ltI hn (by have := hW.2.1; omega)).mp q2.2
      have ht := hW.to_lt hc
      have h3 := hW.1
      have h12 := hW.2.1
      refine ⟨inA 12 rfl rfl (by omega) (by decide), ?_⟩
      have e1 : a 1 p 2 (nI n).toNatClampNeg = nI (to P n) := by
        rw [nI_clamp hn]; exact (hR.2.2.2 n hc).2.1
      rw [e1]
      refine ⟨inA 3 rfl rfl (by omega) (by decide), ?_⟩
      have e2 : a 1 p 0 (nI (to P n)).toNatClampNeg = nI (ar P (to P n)) := by
        rw [nI_clamp (by omega)]; exact hR.2.2.1 _ ht
      rw [e2]
      refine ⟨fun z => ?_, fun z => ?_⟩
      · exact pF h (by simp [hasA, nI_clamp hn, Int32.not_lt.mpr z])
      · exact pT h (by
          simp only [hasA, nI_clamp hn, q, Bool.true_and, decide_eq_true_eq]
          exact ⟨Int32.not_lt.mp d, Int32.not_le.mp z⟩)
  · exact h.elim
theorem shX1_hasArgument : ∀ As f a Q, sX1_hasArgument As f a Q → ∃ i r, As = .inr (.inr (1, i, 0)) :: r := by
  intro As f a Q h
  unfold sX1_hasArgument at h
  split at h
  · exact ⟨_, _, rfl⟩
  · exact h.elim
theorem mX1_hasArgument {g : Gm} (hg : GmOK g) : MetC g yX1_hasArgument cX1_hasArgument 3 (some .boolean) 1 sX1_hasArgument := by
  refine MetC_of hg eX1_hasArgument (eokX1_hasArgument hg) (by decide +kernel) (fun av f a post h => ?_) rX1_hasArgument
  unfold sX1_hasArgument at h
  split at h
  · exact Nat.le_of_ble_eq_true rfl
  · exact h.elim
def sX1_argumentAt : SP := fun As f a Q => match As with
  | [.inr (.inr (1, p, 0)), .inl c, .inl k] => ∃ n m, c = nI n ∧ k = nI m ∧ 2 * n + m < 24 ∧ Q (some (.inl (a 1 p 3 (2 * n + m)))) f a
  | _ => False
theorem ix2 (n m : Nat) : 2 * nI n + nI m = nI (2 * n + m) := by
  rw [show (2 : Int32) = nI 2 from rfl, pk_mul, nI_add]
def eX1_argumentAt : En := (tX1_argumentAt, [], fdX1, [], 0)
theorem eokX1_argumentAt {g : Gm} (hg : GmOK g) : EnvOK g 0 RX1 cX1_argumentAt (some .int) eX1_argumentAt := ⟨okX1_argumentAt, (fun _ _ _ _ h => by cases h), fdX1_ok, (fun _ _ h => by cases h), rfl⟩
theorem rX1_argumentAt (av : List AV) (f : FF) (a : AA) (post : PT) (h : sX1_argumentAt av f a post) (X : XT) (hX : Clo eX1_argumentAt post X) : X 0 (padL 3 (ent av)) [] f a := by
  unfold sX1_argumentAt at h
  split at h
  · obtain ⟨n, m, rfl, rfl, hl, h⟩ := h
    refine hX [] 40 _ _ _ _ _ ?_
    refine ⟨inA 24 (ix2 n m) rfl hl (by decide), ?_⟩
    refine pI h ?_
    dsimp only
    rw [ix2, nI_clamp (by omega)]
  · exact h.elim
theorem shX1_argumentAt : ∀ As f a Q, sX1_argumentAt As f a Q → ∃ i r, As = .inr (.inr (1, i, 0)) :: r := by
  intro As f a Q h
  unfold sX1_argumentAt at h
  split at h
  · exact ⟨_, _, rfl⟩
  · exact h.elim
theorem mX1_argumentAt {g : Gm} (hg : GmOK g) : MetC g yX1_argumentAt cX1_argumentAt 3 (some .int) 0 sX1_argumentAt := by
  refine MetC_of hg eX1_argumentAt (eokX1_argumentAt hg) (by decide +kernel) (fun av f a post h => ?_) rX1_argumentAt
  unfold sX1_argumentAt at h
  split at h
  · exact Nat.le_of_ble_eq_true rfl
  · exact h.elim
def sX1_putArgument : SP := fun As f a Q => match As with
  | [.inr (.inr (1, p, 0)), .inl c, .inl k, .inl x] => ∃ n m, c = nI n ∧ k = nI m ∧ 2 * n + m < 24 ∧ Q none f (upa a 1 p 3 (2 * n + m) x)
  | _ => False
def eX1_putArgument : En := (tX1_putArgument, [], fdX1, [], 2)
theorem eokX1_putArgument {g : Gm} (hg : GmOK g) : EnvOK g 0 RX1 cX1_putArgument none eX1_putArgument := ⟨okX1_putArgument, (fun _ _ _ _ h => by cases h), fdX1_ok, (fun _ _ h => by cases h), rfl⟩
theorem rX1_putArgument (av : List AV) (f : FF) (a : AA) (post : PT) (h : sX1_putArgument av f a post) (X : XT) (hX : Clo eX1_putArgument post X) : X 0 (padL 4 (ent av)) [] f a := by
  unfold sX1_putArgument at h
  split at h
  · obtain ⟨n, m, rfl, rfl, hl, h⟩ := h
    refine hX [] 40 _ _ _ _ _ ?_
    refine ⟨inA 24 (ix2 n m) rfl hl (by decide), ?_⟩
    dsimp only
    rw [ix2, nI_clamp (by omega)]
    exact h
  · exact h.elim
theorem shX1_putArgument : ∀ As f a Q, sX1_putArgument As f a Q → ∃ i r, As = .inr (.inr (1, i, 0)) :: r := by
  intro As f a Q h
  unfold sX1_putArgument at h
  split at h
  · exact ⟨_, _, rfl⟩
  · exact h.elim
theorem mX1_putArgument {g : Gm} (hg : GmOK g) : MetC g yX1_putArgument cX1_putArgument 4 none 0 sX1_putArgument := by
  refine MetC_of hg eX1_putArgument (eokX1_putArgument hg) (by decide +kernel) (fun av f a post h => ?_) rX1_putArgument
  unfold sX1_putArgument at h
  split at h
  · exact Nat.le_of_ble_eq_true rfl
  · exact h.elim
def sX1_appendFunction : SP := fun As f a Q => match As with
  | [.inr (.inr (1, p, 0)), .inl x] => ∃ n, f 1 p 4 = nI n ∧ n < 3 ∧ Q none (upf f 1 p 4 (nI (n + 1))) (upa a 1 p 0 n x)
  | _ => False
def eX1_appendFunction : En := (tX1_appendFunction, [], fdX1, [], 2)
theorem eokX1_appendFunction {g : Gm} (hg : GmOK g) : EnvOK g 0 RX1 cX1_appendFunction none eX1_appendFunction := ⟨okX1_appendFunction, (fun _ _ _ _ h => by cases h), fdX1_ok, (fun _ _ h => by cases h), rfl⟩
theorem rX1_appendFunction (av : List AV) (f : FF) (a : AA) (post : PT) (h : sX1_appendFunction av f a post) (X : XT) (hX : Clo eX1_appendFunction post X) : X 0 (padL 2 (ent av)) [] f a := by
  unfold sX1_appendFunction at h
  split at h
  · obtain ⟨n, e, hl, h⟩ := h
    refine hX [] 40 _ _ _ _ _ ?_
    refine ⟨inA 3 e rfl hl (by decide), ?_⟩
    refine pV h ?_ ?_
    · rw [e, nI_succ]
    · rw [e, nI_clamp (by omega)]
  · exact h.elim
theorem shX1_appendFunction : ∀ As f a Q, sX1_appendFunction As f a Q → ∃ i r, As = .inr (.inr (1, i, 0)) :: r := by
  intro As f a Q h
  unfold sX1_appendFunction at h
  split at h
  · exact ⟨_, _, rfl⟩
  · exact h.elim
theorem mX1_appendFunction {g : Gm} (hg : GmOK g) : MetC g yX1_appendFunction cX1_appendFunction 2 none 0 sX1_appendFunction := by
  refine MetC_of hg eX1_appendFunction (eokX1_appendFunction hg) (by decide +kernel) (fun av f a post h => ?_) rX1_appendFunction
  unfold sX1_appendFunction at h
  split at h
  · exact Nat.le_of_ble_eq_true rfl
  · exact h.elim

def apC (a : AA) (p n : Nat) (x y : Int32) : AA := upa (upa (upa (upa a 1 p 1 n x) 1 p 2 n y) 1 p 3 (2 * n + 0) 0) 1 p 3 (2 * n + 1) 0
def sX1_appendCall : SP := fun As f a Q => match As with
  | [.inr (.inr (1, p, 0)), .inl x, .inl y] => ∃ n, f 1 p 5 = nI n ∧ n < 12 ∧ Q none (upf f 1 p 5 (nI (n + 1))) (apC a p n x y)
  | _ => False
def eX1_appendCall : En := (tX1_appendCall, [(41, false, 4, sX1_putArgument)], fdX1, [], 2)
theorem eokX1_appendCall {g : Gm} (hg : GmOK g) : EnvOK g 1 RX1 cX1_appendCall none eX1_appendCall := ⟨okX1_appendCall, fun _ _ _ _ h => as2_all (P := fun i v => CallOK g 1 RX1 i v.1 v.2.1 v.2.2) (l := eX1_appendCall.2.1) ⟨callV_ok (t := 1) hg (mX1_putArgument hg) kX1_putArgument mlX1_41 qX1_putArgument.1 qX1_putArgument.2 ⟨by decide, by decide⟩ ⟨_, _, rfl⟩ shX1_putArgument, trivial⟩ h, fdX1_ok, (fun _ _ h => by cases h), rfl⟩
theorem rX1_appendCall (av : List AV) (f : FF) (a : AA) (post : PT) (h : sX1_appendCall av f a post) (X : XT) (hX : Clo eX1_appendCall post X) : X 0 (padL 3 (ent av)) [] f a := by
  unfold sX1_appendCall at h
  split at h
  · obtain ⟨n, e, hl, h⟩ := h
    refine hX [] 60 _ _ _ _ _ ?_
    refine ⟨inA 12 e rfl hl (by decide), ?_⟩
    refine ⟨inA 12 e rfl hl (by decide), ?_⟩
    refine ⟨n, 0, e, rfl, by omega, ?_⟩
    refine ⟨n, 1, e, rfl, by omega, ?_⟩
    refine pV h ?_ ?_
    · rw [e, nI_succ]
    · rw [e, nI_clamp (by omega)]
      rfl
  · exact h.elim
theorem shX1_appendCall : ∀ As f a Q, sX1_appendCall As f a Q → ∃ i r, As = .inr (.inr (1, i, 0)) :: r := by
  intro As f a Q h
  unfold sX1_appendCall at h
  split at h
  · exact ⟨_, _, rfl⟩
  · exact h.elim
theorem mX1_appendCall {g : Gm} (hg : GmOK g) : MetC g yX1_appendCall cX1_appendCall 3 none 1 sX1_appendCall := by
  refine MetC_of hg eX1_appendCall (eokX1_appendCall hg) (by decide +kernel) (fun av f a post h => ?_) rX1_appendCall
  unfold sX1_appendCall at h
  split at h
  · exact Nat.le_of_ble_eq_true rfl
  · exact h.elim
theorem RC.app {f : FF} {a : AA} {p : Nat} {P : Pg} (h : RC (f 1 p) (a 1 p) P) {x y : Nat} : RC (upf f 1 p 5 (nI (P.2.length + 1)) 1 p) (apC a p P.2.length (nI x) (nI y) 1 p) (P.1, P.2 ++ [(x, y, 0, 0)]) := by
  refine ⟨?_, ?_, fun i hi => ?_, fun c hc => ?_⟩
  · rw [upf_s, if_neg (by decide)]; exact h.1
  · rw [upf_s, if_pos rfl]; simp
  · have h1 := h.2.2.1 i hi
    unfold apC
    rw [upa_s, if_neg (by decide), upa_s, if_neg (by decide), upa_s, if_neg (by decide), upa_s, if_neg (by decide)]
    exact h1
  · have hl : c < P.2.length ∨ c = P.2.length := by
      have : (P.2 ++ [(x, y, 0, 0)]).length = P.2.length + 1 := by simp
      have hc : c < (P.2 ++ [(x, y, 0, 0)]).length := hc
      omega
    unfold apC
    rcases hl with hl | rfl
    · have h1 := h.2.2.2 c hl
      have hcl : cl (P.1, P.2 ++ [(x, y, 0, 0)]) c = cl P c := by
        unfold cl
        simp [List.getD, List.getElem?_append_left hl]
      simp only [fr, to, ag, hcl]
      refine ⟨?_, ?_, ?_, ?_⟩
      · simp [upa_s, upd_s, show ¬ c = P.2.length by omega]
        exact h1.1
      · simp [upa_s, upd_s, show ¬ c = P.2.length by omega]
        exact h1.2.1
      · simp [upa_s, upd_s, show ¬ c = P.2.length by omega, show ¬ 2 * c = 2 * P.2.length + 1 by omega, show ¬ 2 * c = 2 * P.2.length by omega]
        exact h1.2.2.1
      · simp [upa_s, upd_s, show ¬ c = P.2.length by omega, show ¬ 2 * c + 1 = 2 * P.2.length by omega, show ¬ 2 * c = 2 * P.2.length by omega]
        exact h1.2.2.2
    · have hcl : cl (P.1, P.2 ++ [(x, y, 0, 0)]) P.2.length = (x, y, 0, 0) := by
        unfold cl
        simp [List.getD]
      simp only [fr, to, ag, hcl]
      refine ⟨?_, ?_, ?_, ?_⟩
      · simp [upa_s, upd_s]
      · simp [upa_s, upd_s]
      · simp [upa_s, upd_s, agq, show ¬ 2 * P.2.length = 2 * P.2.length + 1 by omega]
        rfl
      · simp [upa_s, upd_s, agq]
        rfl
