/-! words for numbers, loops, and the mathematical state -/
theorem lit (n : Nat) : (OfNat.ofNat n : Int32) = nI n := rfl
def b2i (c : Bool) : Int32 := if c then 1 else 0
theorem b2i_t {c : Bool} (h : c = true) : b2i c = 1 := by rw [h]; rfl
theorem b2i_f {c : Bool} (h : c = false) : b2i c = 0 := by rw [h]; rfl
theorem b2i_01 (c : Bool) : b2i c = 0 ∨ b2i c = 1 := by cases c <;> simp [b2i]
theorem b2i_e0 {c : Bool} : b2i c = 0 ↔ c = false := by cases c <;> simp [b2i]
theorem b2i_n0 {c : Bool} : ¬ b2i c = 0 ↔ c = true := by cases c <;> simp [b2i]
theorem b2i_e1 {c : Bool} : b2i c = 1 ↔ c = true := by cases c <;> simp [b2i]
theorem b2i_b (c : Bool) : b2i (decide (¬ b2i c = 0)) = b2i c := by cases c <;> simp [b2i]
theorem pI {post : PT} {x y : Int32} {f : FF} {a : AA} (h : post (some (.inl x)) f a) (e : x = y) : post (some (.inl y)) f a := e ▸ h
theorem pZ {post : PT} {x y : Int32} {f : FF} {a : AA} (h : post (some (.inl x)) f a) (e : x = y) (hx : x = 0 ∨ x = 1) : (y = 0 ∨ y = 1) ∧ post (some (.inl y)) f a := ⟨e ▸ hx, e ▸ h⟩
theorem pB {post : PT} {c : Bool} {y : Int32} {f : FF} {a : AA} (h : post (some (.inl (b2i c))) f a) (e : b2i c = y) : (y = 0 ∨ y = 1) ∧ post (some (.inl y)) f a := pZ h e (b2i_01 c)
theorem pT {post : PT} {c : Bool} {f : FF} {a : AA} (h : post (some (.inl (b2i c))) f a) (e : c = true) : ((1 : Int32) = 0 ∨ (1 : Int32) = 1) ∧ post (some (.inl 1)) f a := pB h (b2i_t e)
theorem pF {post : PT} {c : Bool} {f : FF} {a : AA} (h : post (some (.inl (b2i c))) f a) (e : c = false) : ((0 : Int32) = 0 ∨ (0 : Int32) = 1) ∧ post (some (.inl 0)) f a := pB h (b2i_f e)
theorem pV {post : PT} {f f' : FF} {a a' : AA} (h : post none f a) (e1 : f = f') (e2 : a = a') : post none f' a' := by subst e1; subst e2; exact h
theorem pIV {post : PT} {x y : Int32} {f f' : FF} {a a' : AA} (h : post (some (.inl x)) f a) (e : x = y) (e1 : f = f') (e2 : a = a') : post (some (.inl y)) f' a' := by subst e; subst e1; subst e2; exact h
theorem xE {X : XT} {pc : Nat} {ls : Lcs} {st : List AV} {f f' : FF} {a a' : AA} (h : X pc ls st f a) (e1 : f = f') (e2 : a = a') : X pc ls st f' a' := by subst e1; subst e2; exact h
/-- an index of a row -/
theorem inA {t k n : Nat} {x : Int32} (N : Nat) (hx : x = nI n) (hN : al t k = N) (h : n < N) (h31 : N < 2 ^ 31) : vp_in x (al t k) := by
  rw [hx, hN]
  exact vp_in_nI h h31
/-- a loop whose state is told by its counter -/
theorem forUp {Pr : Nat → Prop} {n : Nat} (step : ∀ i, i < n → Pr (i + 1) → Pr i) (last : Pr n) : ∀ i, i ≤ n → Pr i := by
  have key : ∀ d i, i + d = n → Pr i := by
    intro d
    induction d with
    | zero => intro i h; rw [Nat.add_zero] at h; rw [h]; exact last
    | succ d ih => intro i h; exact step i (by omega) (ih (i + 1) (by omega))
  intro i h
  exact key (n - i) i (by omega)
theorem ge0 {x : Int32} (h : ¬ x < 0) : ∃ n, n < 2 ^ 31 ∧ x = nI n := nI_of h
theorem i_lt {x y : Int32} {a b : Nat} (hx : x = nI a) (hy : y = nI b) (ha : a < 2 ^ 31) (hb : b < 2 ^ 31) : x < y ↔ a < b := by rw [hx, hy, nI_ltI ha hb]
theorem i_le {x y : Int32} {a b : Nat} (hx : x = nI a) (hy : y = nI b) (ha : a < 2 ^ 31) (hb : b < 2 ^ 31) : x ≤ y ↔ a ≤ b := by rw [hx, hy, nI_leI ha hb]
theorem i_eq {x y : Int32} {a b : Nat} (hx : x = nI a) (hy : y = nI b) (ha : a < 2 ^ 31) (hb : b < 2 ^ 31) : x = y ↔ a = b := by rw [hx, hy, nI_eq ha hb]
theorem nlt_le {x y : Int32} : ¬ x < y ↔ y ≤ x := Int32.not_lt
theorem nle_lt {x y : Int32} : ¬ x ≤ y ↔ y < x := Int32.not_le
/-- only one object has changed -/
def Fr (f : FF) (a : AA) (f' : FF) (a' : AA) (t i : Nat) : Prop := ∀ t' i', ¬ (t' = t ∧ i' = i) → f' t' i' = f t' i' ∧ a' t' i' = a t' i'
theorem Fr.rf (f : FF) (a : AA) (t i : Nat) : Fr f a f a t i := fun _ _ _ => ⟨rfl, rfl⟩
theorem Fr.tr {f f' f'' : FF} {a a' a'' : AA} {t i : Nat} (h : Fr f a f' a' t i) (h' : Fr f' a' f'' a'' t i) : Fr f a f'' a'' t i := fun t' i' hn => ⟨(h' t' i' hn).1.trans (h t' i' hn).1, (h' t' i' hn).2.trans (h t' i' hn).2⟩
theorem Fr.uf {f f' : FF} {a a' : AA} {t i : Nat} (h : Fr f a f' a' t i) (k : Nat) (x : Int32) : Fr f a (upf f' t i k x) a' t i := fun t' i' hn => ⟨by
  rw [← (h t' i' hn).1]
  funext k'
  exact upf_ne (fun q => hn ⟨q.1, q.2.1⟩), (h t' i' hn).2⟩
theorem Fr.uA {f f' : FF} {a a' : AA} {t i : Nat} (h : Fr f a f' a' t i) (k : Nat) (x : Nat → Int32) : Fr f a f' (upA a' t i k x) t i := fun t' i' hn => ⟨(h t' i' hn).1, by
  rw [← (h t' i' hn).2]
  funext k'
  exact upA_ne (fun q => hn ⟨q.1, q.2.1⟩)⟩
theorem Fr.ua {f f' : FF} {a a' : AA} {t i : Nat} (h : Fr f a f' a' t i) (k j : Nat) (x : Int32) : Fr f a f' (upa a' t i k j x) t i := h.uA k _
theorem upf_s (f : FF) (t i k : Nat) (x : Int32) (j : Nat) : upf f t i k x t i j = if j = k then x else f t i j := by
  by_cases h : j = k
  · subst h; rw [upf_eq, if_pos rfl]
  · rw [upf_ne (fun q => h q.2.2), if_neg h]
theorem upa_s (a : AA) (t i k n : Nat) (x : Int32) (j : Nat) : upa a t i k n x t i j = if j = k then upd (a t i k) n x else a t i j := by
  unfold upa
  by_cases h : j = k
  · subst h; rw [upA_eq, if_pos rfl]
  · rw [upA_ne (fun q => h q.2.2), if_neg h]
theorem upA_s (a : AA) (t i k : Nat) (x : Nat → Int32) (j : Nat) : upA a t i k x t i j = if j = k then x else a t i j := by
  by_cases h : j = k
  · subst h; rw [upA_eq, if_pos rfl]
  · rw [upA_ne (fun q => h q.2.2), if_neg h]
theorem upd_s (f : Nat → Int32) (k : Nat) (x : Int32) (j : Nat) : upd f k x j = if j = k then x else f j := rfl
theorem upf_o (f : FF) {t i k t' i' : Nat} (x : Int32) (h : ¬ (t' = t ∧ i' = i)) : upf f t i k x t' i' = f t' i' := by
  funext k'
  exact upf_ne (fun q => h ⟨q.1, q.2.1⟩)
theorem upa_o (a : AA) {t i k n t' i' : Nat} (x : Int32) (h : ¬ (t' = t ∧ i' = i)) : upa a t i k n x t' i' = a t' i' := by
  funext k'
  exact upA_ne (fun q => h ⟨q.1, q.2.1⟩)
/-! a program: arities; calls (from, to, two arguments as they are told) -/
abbrev Pg : Type := List Nat × List (Nat × Nat × Nat × Nat)
def ar (P : Pg) (i : Nat) : Nat := P.1.getD i 0
def cl (P : Pg) (c : Nat) : Nat × Nat × Nat × Nat := P.2.getD c (0, 0, 0, 0)
def fr (P : Pg) (c : Nat) : Nat := (cl P c).1
def to (P : Pg) (c : Nat) : Nat := (cl P c).2.1
def agq (q : Nat × Nat × Nat × Nat) (k : Nat) : Nat := if k = 0 then q.2.2.1 else q.2.2.2
def ag (P : Pg) (c k : Nat) : Nat := agq (cl P c) k
/-- an argument told so is one of a function of n values -/
def okA (n x : Nat) : Bool := decide (x < 500) && (if x / 100 = 0 then decide (x / 10 % 10 = 0) else if x / 100 = 4 then decide (x = 400) && decide (n = 2) else decide (x / 10 % 10 < n) && (decide (x / 100 ≠ 2) || decide (0 < x % 10)))
def okC (P : Pg) (q : Nat × Nat × Nat × Nat) : Prop := q.1 < P.1.length ∧ q.2.1 < P.1.length ∧ okA (ar P q.1) q.2.2.1 = true ∧ (if ar P q.2.1 = 2 then okA (ar P q.1) q.2.2.2 = true else q.2.2.2 = 0)
def WF (P : Pg) : Prop := P.1.length ≤ 3 ∧ P.2.length ≤ 12 ∧ (∀ i, i < P.1.length → ar P i = 1 ∨ ar P i = 2) ∧ ∀ c, c < P.2.length → okC P (cl P c)
/-- a Program object holds it -/
def RC (u : Nat → Int32) (w : Nat → Nat → Int32) (P : Pg) : Prop :=
  u 4 = nI P.1.length ∧ u 5 = nI P.2.length ∧ (∀ i, i < P.1.length → w 0 i = nI (ar P i)) ∧
  ∀ c, c < P.2.length → w 1 c = nI (fr P c) ∧ w 2 c = nI (to P c) ∧ w 3 (2 * c) = nI (ag P c 0) ∧ w 3 (2 * c + 1) = nI (ag P c 1)
/-- all arities that a row holds, junk too, are small -/
def AB (w : Nat → Nat → Int32) : Prop := ∀ i, i < 3 → ∃ m, m < 3 ∧ w 0 i = nI m
theorem RC.arg {u : Nat → Int32} {w : Nat → Nat → Int32} {P : Pg} (h : RC u w P) {c k : Nat} (hc : c < P.2.length) (hk : k < 2) : w 3 (2 * c + k) = nI (ag P c k) := by
  have h1 := h.2.2.2 c hc
  rcases (show k = 0 ∨ k = 1 by omega) with rfl | rfl
  · exact h1.2.2.1
  · exact h1.2.2.2
theorem okA_lt {n x : Nat} (h : okA n x = true) : x < 500 := by
  unfold okA at h
  simp only [Bool.and_eq_true, decide_eq_true_eq] at h
  exact h.1
theorem WF.ag_lt {P : Pg} (h : WF P) {c k : Nat} (hc : c < P.2.length) : ag P c k < 500 := by
  have h1 := h.2.2.2 c hc
  unfold ag agq
  split
  · exact okA_lt h1.2.2.1
  · have h2 := h1.2.2.2
    split at h2
    · exact okA_lt h2
    · omega
theorem WF.fr_lt {P : Pg} (h : WF P) {c : Nat} (hc : c < P.2.length) : fr P c < P.1.length := (h.2.2.2 c hc).1
theorem WF.to_lt {P : Pg} (h : WF P) {c : Nat} (hc : c < P.2.length) : to P c < P.1.length := (h.2.2.2 c hc).2.1
