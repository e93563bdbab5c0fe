/-! graphs: codes composed; the list of graphs; closing it -/
theorem fb_holes : ∀ (m n : Nat) (f : Nat → Nat), (∀ i, i < n → f i < m) → (∀ i j, i < j → j < n → f i ≠ f j) → n ≤ m := by
  intro m
  induction m with
  | zero =>
    intro n f h1 _
    rcases Nat.eq_zero_or_pos n with h | h
    · omega
    · exact absurd (h1 0 h) (Nat.not_lt_zero _)
  | succ m ih =>
    intro n f h1 h2
    by_cases hx : ∃ i, i < n ∧ f i = m
    · obtain ⟨a, ha, hfa⟩ := hx
      have hg := ih (n - 1) (fun i => if i < a then f i else f (i + 1)) (by
        intro i hi
        by_cases q : i < a
        · simp only [if_pos q]
          have b1 := h1 i (by omega)
          have b2 := h2 i a q ha
          omega
        · simp only [if_neg q]
          have b1 := h1 (i + 1) (by omega)
          have b2 := h2 a (i + 1) (by omega) (by omega)
          omega) (by
        intro i j hij hj
        by_cases q : i < a
        · by_cases r : j < a
          · simp only [if_pos q, if_pos r]
            exact h2 i j hij (by omega)
          · simp only [if_pos q, if_neg r]
            exact h2 i (j + 1) (by omega) (by omega)
        · have r : ¬ j < a := by omega
          simp only [if_neg q, if_neg r]
          exact h2 (i + 1) (j + 1) (by omega) (by omega))
      omega
    · have hg := ih n f (fun i hi => by
        have b1 := h1 i hi
        have b2 : f i ≠ m := fun e => hx ⟨i, hi, e⟩
        omega) h2
      omega
theorem fa_and (a b : Nat) : nI a &&& nI b = nI (a &&& b) := by
  apply Int32.toBitVec_inj.1
  show BitVec.ofNat 32 a &&& BitVec.ofNat 32 b = BitVec.ofNat 32 (a &&& b)
  apply BitVec.eq_of_getLsbD_eq
  intro i hi
  simp [hi]
theorem fa_or (a b : Nat) : nI a ||| nI b = nI (a ||| b) := by
  apply Int32.toBitVec_inj.1
  show BitVec.ofNat 32 a ||| BitVec.ofNat 32 b = BitVec.ofNat 32 (a ||| b)
  apply BitVec.eq_of_getLsbD_eq
  intro i hi
  simp [hi]

def r1 (x y : Nat) : Nat := if x = 0 ∨ y = 0 then 0 else if x = 2 ∨ y = 2 then 2 else 1
def cmp1 (x y i k : Nat) : Nat := max (r1 (rl x i 0) (rl y 0 k)) (r1 (rl x i 1) (rl y 1 k))
/-- two codes composed -/
def compN (x y : Nat) : Nat := codeR (cmp1 x y 0 0) (cmp1 x y 0 1) (cmp1 x y 1 0) (cmp1 x y 1 1)
theorem r1_lt (x y : Nat) : r1 x y < 3 := by
  unfold r1
  split
  · decide
  · split <;> decide
theorem compN_lt (x y : Nat) : compN x y < 81 := by
  have h : ∀ i k, cmp1 x y i k < 3 := fun i k => by
    have h1 := r1_lt (rl x i 0) (rl y 0 k)
    have h2 := r1_lt (rl x i 1) (rl y 1 k)
    unfold cmp1
    omega
  exact codeR_lt (h 0 0) (h 0 1) (h 1 0) (h 1 1)
/-- in which values it falls, as bits -/
def fallN (c : Nat) : Nat := (if rl c 0 0 = 2 then 1 else 0) + (if rl c 1 1 = 2 then 2 else 0)
abbrev Gr : Type := Nat × Nat × Nat × Option Nat × Nat × Nat × Nat
def pl (f t c : Nat) : Nat := (3 * f + t) * 81 + c
def gpl (e : Gr) : Nat := pl e.1 e.2.1 e.2.2.1
def ge (L : List Gr) (g : Nat) : Gr := L.getD g (0, 0, 0, none, 0, 0, 0)
def fnd (L : List Gr) (p : Nat) : Option Nat := L.findIdx? (fun e => gpl e == p)
def newE (L : List Gr) (f t c : Nat) (ah : Option Nat) (la : Nat) : Gr := (f, t, c, ah, la, (match ah with
  | none => 1
  | some h => (ge L h).2.2.2.2.2.1 + 1), 2 ^ la ||| (match ah with
  | none => 0
  | some h => (ge L h).2.2.2.2.2.2))
def meetL (L : List Gr) (f t c : Nat) (ah : Option Nat) (la : Nat) : List Gr := match fnd L (pl f t c) with
  | some _ => L
  | none => L ++ [newE L f t c ah la]
/-- an entry is in order -/
def okG (L : List Gr) (g : Nat) (e : Gr) : Prop := e.1 < 3 ∧ e.2.1 < 3 ∧ e.2.2.1 < 81 ∧ e.2.2.2.2.1 < 12 ∧ (∀ h, e.2.2.2.1 = some h → h < g ∧ e.2.2.2.2.2.1 = (ge L h).2.2.2.2.2.1 + 1) ∧ (e.2.2.2.1 = none → e.2.2.2.2.2.1 = 1) ∧ 1 ≤ e.2.2.2.2.2.1 ∧ e.2.2.2.2.2.1 ≤ g + 1 ∧ e.2.2.2.2.2.2 < 4096
def WL (L : List Gr) : Prop := (∀ g, g < L.length → okG L g (ge L g)) ∧ ∀ g h, g < L.length → h < L.length → gpl (ge L g) = gpl (ge L h) → g = h
theorem pl_lt {f t c : Nat} (hf : f < 3) (ht : t < 3) (hc : c < 81) : pl f t c < 729 := by unfold pl; omega
theorem pl_inj {f t c f' t' c' : Nat} (ht : t < 3) (hc : c < 81) (ht' : t' < 3) (hc' : c' < 81) (h : pl f t c = pl f' t' c') : f = f' ∧ t = t' ∧ c = c' := by
  unfold pl at h
  omega
theorem ge_at {L : List Gr} {g : Nat} (h : g < L.length) : L[g]? = some (ge L g) := by
  unfold ge
  rw [List.getD_eq_getElem?_getD, List.getElem?_eq_getElem h]
  rfl
theorem ge_app {L M : List Gr} {g : Nat} (h : g < L.length) : ge (L ++ M) g = ge L g := by
  unfold ge
  rw [List.getD_eq_getElem?_getD, List.getD_eq_getElem?_getD, List.getElem?_append_left h]
theorem ge_last {L : List Gr} {e : Gr} : ge (L ++ [e]) L.length = e := by
  unfold ge
  rw [List.getD_eq_getElem?_getD, List.getElem?_append_right (Nat.le_refl _), Nat.sub_self]
  rfl
theorem fnd_some {L : List Gr} {p g : Nat} (h : fnd L p = some g) : g < L.length ∧ gpl (ge L g) = p := by
  unfold fnd at h
  obtain ⟨h1, h2, -⟩ := List.findIdx?_eq_some_iff_getElem.mp h
  refine ⟨h1, ?_⟩
  have h3 := ge_at h1
  rw [List.getElem?_eq_getElem h1] at h3
  rw [← Option.some.inj h3]
  exact eq_of_beq h2
theorem fnd_none {L : List Gr} {p : Nat} (h : fnd L p = none) : ∀ g, g < L.length → gpl (ge L g) ≠ p := by
  intro g hg hp
  unfold fnd at h
  have h1 := List.findIdx?_eq_none_iff.mp h (ge L g) (List.mem_of_getElem? (ge_at hg))
  simp [hp] at h1
theorem fnd_of {L : List Gr} (hW : WL L) {g : Nat} (hg : g < L.length) : fnd L (gpl (ge L g)) = some g := by
  cases h : fnd L (gpl (ge L g)) with
  | none => exact absurd rfl (fnd_none h g hg)
  | some g' =>
    obtain ⟨h1, h2⟩ := fnd_some h
    rw [hW.2 g' g h1 hg h2]
theorem fnd_app {L : List Gr} {e : Gr} {p : Nat} : fnd (L ++ [e]) p = match fnd L p with
    | some g => some g
    | none => if gpl e = p then some L.length else none := by
  unfold fnd
  rw [List.findIdx?_append]
  cases h : L.findIdx? (fun e => gpl e == p) with
  | some g => rfl
  | none =>
    by_cases hp : gpl e = p
    · simp [hp]
    · simp [hp]
theorem WL_nil : WL [] := ⟨fun g h => absurd h (Nat.not_lt_zero g), fun g _ h => absurd h (Nat.not_lt_zero g)⟩
theorem WL_len {L : List Gr} (hW : WL L) : L.length ≤ 729 := by
  refine fb_holes 729 L.length (fun g => gpl (ge L g)) (fun g hg => ?_) (fun g h hgh hh e => ?_)
  · have := hW.1 g hg
    exact pl_lt this.1 this.2.1 this.2.2.1
  · have := hW.2 g h (by omega) hh e
    omega
theorem WL_new {L : List Gr} (hW : WL L) {f t c la : Nat} {ah : Option Nat} (hf : f < 3) (ht : t < 3) (hc : c < 81) (hla : la < 12) (hah : ∀ h, ah = some h → h < L.length) (hn : fnd L (pl f t c) = none) : WL (L ++ [newE L f t c ah la]) := by
  have p12 : 2 ^ la < 4096 := Nat.lt_of_lt_of_le (Nat.pow_lt_pow_right (by decide) hla) (by decide)
  refine ⟨fun g hg => ?_, fun g h hg hh hgh => ?_⟩
  · rw [List.length_append] at hg
    have hg : g < L.length ∨ g = L.length := by simp at hg; omega
    rcases hg with hg | rfl
    · rw [ge_app hg]
      have q := hW.1 g hg
      refine ⟨q.1, q.2.1, q.2.2.1, q.2.2.2.1, fun h hh => ?_, q.2.2.2.2.2⟩
      have q2 := q.2.2.2.2.1 h hh
      exact ⟨q2.1, by rw [ge_app (by omega)]; exact q2.2⟩
    · rw [ge_last]
      refine ⟨hf, ht, hc, hla, fun h hh => ?_, fun hh => ?_, ?_, ?_, ?_⟩
      · have hh : ah = some h := hh
        subst hh
        exact ⟨hah h rfl, by rw [ge_app (hah h rfl)]; rfl⟩
      · have hh : ah = none := hh
        subst hh
        rfl
      · cases ah with
        | none => exact Nat.le_refl 1
        | some h => show 1 ≤ _ + 1; omega
      · cases ah with
        | none => show 1 ≤ _; omega
        | some h =>
          have q := hW.1 h (hah h rfl)
          have := q.2.2.2.2.2.2.2.1
          have := hah h rfl
          show (ge L h).2.2.2.2.2.1 + 1 ≤ L.length + 1
          omega
      · show _ ||| _ < 2 ^ 12
        refine Nat.or_lt_two_pow p12 ?_
        cases ah with
        | none => show 0 < 2 ^ 12; decide
        | some h => exact (hW.1 h (hah h rfl)).2.2.2.2.2.2.2.2
  · have key : ∀ g, g < (L ++ [newE L f t c ah la]).length → g < L.length ∨ g = L.length := fun g hg => by simp at hg; omega
    rcases key g hg with hg | rfl <;> rcases key h hh with hh | rfl
    · rw [ge_app hg, ge_app hh] at hgh
      exact hW.2 g h hg hh hgh
    · rw [ge_app hg, ge_last] at hgh
      exact absurd hgh (fnd_none hn g hg)
    · rw [ge_app hh, ge_last] at hgh
      exact absurd hgh.symm (fnd_none hn h hh)
    · rfl
theorem WL_meet {L : List Gr} (hW : WL L) {f t c la : Nat} {ah : Option Nat} (hf : f < 3) (ht : t < 3) (hc : c < 81) (hla : la < 12) (hah : ∀ h, ah = some h → h < L.length) : WL (meetL L f t c ah la) := by
  unfold meetL
  split
  · exact hW
  · rename_i hn
    exact WL_new hW hf ht hc hla hah hn
theorem meet_pre (L : List Gr) (f t c : Nat) (ah : Option Nat) (la : Nat) : ∃ M, meetL L f t c ah la = L ++ M := by
  unfold meetL
  split
  · exact ⟨[], (List.append_nil L).symm⟩
  · exact ⟨_, rfl⟩
theorem fnd_pre {L M : List Gr} {p g : Nat} (h : fnd L p = some g) : fnd (L ++ M) p = some g := by
  unfold fnd at h ⊢
  rw [List.findIdx?_append, h]
  rfl
theorem meet_has (L : List Gr) (f t c : Nat) (ah : Option Nat) (la : Nat) : ∃ g, fnd (meetL L f t c ah la) (pl f t c) = some g := by
  unfold meetL
  split
  · rename_i g hg
    exact ⟨g, hg⟩
  · rename_i hn
    exact ⟨L.length, by rw [fnd_app, hn]; exact if_pos rfl⟩
/-! closing: calls as keys, of which some are left out -/
abbrev Kf : Type := Nat → Nat × Nat × Nat
def ph1 (K : Kf) (act : Nat → Bool) : Nat → List Gr
  | 0 => []
  | n + 1 => if act n then meetL (ph1 K act n) (K n).1 (K n).2.1 (K n).2.2 none n else ph1 K act n
def inn (K : Kf) (act : Nat → Bool) (L : List Gr) (g : Nat) : Nat → List Gr
  | 0 => L
  | n + 1 => if act n && decide ((K n).1 = (ge L g).2.1) then meetL (inn K act L g n) (ge L g).1 (K n).2.1 (compN (ge L g).2.2.1 (K n).2.2) (some g) n else inn K act L g n
def out (K : Kf) (act : Nat → Bool) (n : Nat) : Nat → List Gr → Nat → List Gr
  | 0, L, _ => L
  | d + 1, L, g => if g < L.length then out K act n d (inn K act L g n) (g + 1) else L
def cloG (K : Kf) (act : Nat → Bool) (n : Nat) : List Gr := out K act n 730 (ph1 K act n) 0
def okK (K : Kf) (n : Nat) : Prop := n ≤ 12 ∧ ∀ c, c < n → (K c).1 < 3 ∧ (K c).2.1 < 3 ∧ (K c).2.2 < 81
theorem ph1_ok {K : Kf} {act : Nat → Bool} {n : Nat} (h : okK K n) : ∀ m, m ≤ n → WL (ph1 K act m)
  | 0, _ => WL_nil
  | m + 1, hm => by
    have ih := ph1_ok (act := act) h m (by omega)
    have hk := h.2 m (by omega)
    have := h.1
    unfold ph1
    split
    · exact WL_meet ih hk.1 hk.2.1 hk.2.2 (by omega) (fun h hh => by cases hh)
    · exact ih
theorem inn_pre {K : Kf} {act : Nat → Bool} {L : List Gr} {g : Nat} : ∀ m, ∃ M, inn K act L g m = L ++ M
  | 0 => ⟨[], (List.append_nil L).symm⟩
  | m + 1 => by
    obtain ⟨M, hM⟩ := inn_pre (K := K) (act := act) (L := L) (g := g) m
    unfold inn
    split
    · obtain ⟨M', hM'⟩ := meet_pre (inn K act L g m) (ge L g).1 (K m).2.1 (compN (ge L g).2.2.1 (K m).2.2) (some g) m
      exact ⟨M ++ M', by rw [hM', hM, List.append_assoc]⟩
    · exact ⟨M, hM⟩
theorem inn_ok {K : Kf} {act : Nat → Bool} {L : List Gr} {g n : Nat} (h : okK K n) (hW : WL L) (hg : g < L.length) : ∀ m, m ≤ n → WL (inn K act L g m)
  | 0, _ => hW
  | m + 1, hm => by
    have ih := inn_ok (act := act) h hW hg m (by omega)
    have hk := h.2 m (by omega)
    have := h.1
    have he := hW.1 g hg
    obtain ⟨M, hM⟩ := inn_pre (K := K) (act := act) (L := L) (g := g) m
    unfold inn
    split
    · refine WL_meet ih he.1 hk.2.1 (compN_lt _ _) (by omega) (fun h hh => ?_)
      cases hh
      rw [hM, List.length_append]
      omega
    · exact ih
theorem out_ok {K : Kf} {act : Nat → Bool} {n : Nat} (h : okK K n) : ∀ (d : Nat) (L : List Gr) (g : Nat), WL L → WL (out K act n d L g) ∧ ∃ M, out K act n d L g = L ++ M
  | 0, L, g, hW => ⟨hW, [], (List.append_nil L).symm⟩
  | d + 1, L, g, hW => by
    unfold out
    split
    · rename_i hg
      obtain ⟨h1, M, h2⟩ := out_ok (act := act) h d (inn K act L g n) (g + 1) (inn_ok h hW hg n (Nat.le_refl _))
      obtain ⟨M', h3⟩ := inn_pre (K := K) (act := act) (L := L) (g := g) n
      exact ⟨h1, M' ++ M, by rw [h2, h3, List.append_assoc]⟩
    · exact ⟨hW, [], (List.append_nil L).symm⟩
theorem clo_ok {K : Kf} {act : Nat → Bool} {n : Nat} (h : okK K n) : WL (cloG K act n) := (out_ok h 730 _ 0 (ph1_ok h n (Nat.le_refl _))).1
