/-! the mathematical state stays in its bounds -/
theorem ok_feed {A : Ab} (h : OKA A) (x : Int32) : OKA (nxFeed A x) := by
  unfold nxFeed
  split
  · rename_i hx
    split
    · rename_i hl
      obtain ⟨n, hn, rfl⟩ := ge0 (Int32.not_lt.mpr hx.1)
      have hn2 : n ≤ 127 := (nI_leI (b := 127) hn (by decide)).mp hx.2
      rw [nI_clamp hn]
      refine ⟨h.1, ⟨?_, fun i hi => ?_⟩, h.2.2⟩
      · show (aT A ++ [n]).length ≤ 160
        rw [List.length_append]
        simp
        omega
      · have hi : i < (aT A).length ∨ i = (aT A).length := by
          have : i < (aT A ++ [n]).length := hi
          rw [List.length_append] at this
          simp at this
          omega
        show (aT A ++ [n]).getD i 0 < 128
        rcases hi with hi | rfl
        · rw [List.getD_eq_getElem?_getD, List.getElem?_append_left hi, ← List.getD_eq_getElem?_getD]
          exact h.2.1.2 i hi
        · rw [List.getD_eq_getElem?_getD, List.getElem?_append_right (Nat.le_refl _), Nat.sub_self]
          show n < 128
          omega
    · exact h
  · exact h
theorem ok_end {A : Ab} (h : OKA A) (x : Int32) : OKA (nxEnd A x) := by
  unfold nxEnd
  split
  · refine ⟨h.1, ⟨?_, fun i hi => ?_⟩, h.2.2⟩
    · show ((aT A).take _).length ≤ 160
      rw [List.length_take]
      have := h.2.1.1
      omega
    · have hi : i < ((aT A).take x.toNatClampNeg).length := hi
      rw [List.length_take] at hi
      show ((aT A).take x.toNatClampNeg).getD i 0 < 128
      rw [take_get (by omega)]
      exact h.2.1.2 i (by omega)
  · exact h
theorem tel_ok {T : List Nat} : ∀ (d : Nat) (σ : Lx) (P : Pg), LOK T σ → (σ.1 = 0 → WF P) → LOK T (telN T d σ P).1 ∧ ((telN T d σ P).1.1 = 0 → WF (telN T d σ P).2)
  | 0, σ, P, hL, hW => ⟨hL, hW⟩
  | d + 1, σ, P, hL, hW => by
    have e : telN T (d + 1) σ P = if σ.2.2.2 = 0 then (σ, P) else telN T d (lnN T σ P).1 (lnN T σ P).2 := rfl
    rw [e]
    by_cases k : σ.2.2.2 = 0
    · rw [if_pos k]
      exact ⟨hL, hW⟩
    · rw [if_neg k]
      exact tel_ok d _ _ (lnN_lok hL) (fun z => (lnN_ok hL (hW (hL.2.2.2.2.1 k).1) z).1)
theorem ok_text {A : Ab} (h : OKA A) : OKA (nxText A) := by
  have l0 : LOK0 (aT A) (0, 0, 0, 0) := ⟨by show 0 < 10; decide, Nat.zero_le _⟩
  have K := tel_ok 16 (txS (aT A)) ([], []) (l0.step rfl) (fun _ => WF_nil)
  unfold nxText
  unfold txR
  split
  · rename_i z
    exact ⟨K.2 z, ⟨Nat.zero_le _, fun i hi => absurd hi (Nat.not_lt_zero i)⟩, by show 0 < 10; decide, (fun k _ P hP => by cases hP), h.2.2.2.2⟩
  · exact ⟨h.1, ⟨Nat.zero_le _, fun i hi => absurd hi (Nat.not_lt_zero i)⟩, K.1.1, h.2.2.2⟩
theorem ok_open {A : Ab} (h : OKA A) (x : Int32) : OKA (nxOpen A x) := by
  unfold nxOpen
  split
  · rename_i hx
    split
    · rename_i hl
      have hx0 : (0 : Int32) ≤ x := Int32.le_trans (by decide) hx.1
      obtain ⟨n, hn, rfl⟩ := ge0 (Int32.not_lt.mpr hx0)
      have h1 : 1 ≤ n := (nI_leI (a := 1) (by decide) hn).mp hx.1
      have h2 : n ≤ 2 := (nI_leI (b := 2) hn (by decide)).mp hx.2
      rw [nI_clamp hn]
      exact ⟨h.1.opn hl (by omega), h.2⟩
    · exact h
  · exact h
theorem ok_add {A : Ab} (h : OKA A) (x y : Int32) : OKA (nxAdd A x y) := by
  unfold nxAdd
  split
  · rename_i hx
    rw [Bool.and_eq_true] at hx
    split
    · rename_i hl
      obtain ⟨i, rfl, hi, hi3⟩ := isF_i h hx.1
      obtain ⟨j, rfl, hj, hj3⟩ := isF_i h hx.2
      rw [nI_clamp (show i < 2 ^ 31 by omega), nI_clamp (show j < 2 ^ 31 by omega)]
      have ai := h.1.2.2.1 i hi
      have o := ok0 (ar (aP A) i) (by omega) 0 (by decide)
      refine ⟨h.1.app hl ⟨hi, hj, o, ?_⟩, h.2⟩
      show (if ar (aP A) j = 2 then okA (ar (aP A) i) 0 = true else (0 : Nat) = 0)
      split
      · exact o
      · rfl
    · exact h
  · exact h
theorem ok_cut {A : Ab} (h : OKA A) (x : Int32) : OKA (nxCut A x) := by
  unfold nxCut
  split
  · refine ⟨⟨h.1.1, ?_, h.1.2.2.1, fun c hc => ?_⟩, h.2⟩
    · show ((aP A).2.take _).length ≤ 12
      rw [List.length_take]
      have := h.1.l12
      omega
    · have hc : c < ((aP A).2.take x.toNatClampNeg).length := hc
      rw [List.length_take] at hc
      show okC ((aP A).1, (aP A).2.take x.toNatClampNeg) (cl ((aP A).1, (aP A).2.take x.toNatClampNeg) c)
      rw [cl_take (by omega)]
      exact h.1.2.2.2 c (by omega)
  · exact h
theorem wf_set {P : Pg} (hW : WF P) {c k x : Int32} (ht : takesB P c k x = true) : WF (setA P c.toNatClampNeg k.toNatClampNeg x.toNatClampNeg) := by
  obtain ⟨c', k', y', rfl, hc', rfl, hk', rfl, hy', hok'⟩ := takes_spec hW ht
  have h12 := hW.l12
  have hat := hW.ar_to hc'
  rw [nI_clamp (show c' < 2 ^ 31 by omega), nI_clamp (show k' < 2 ^ 31 by omega), nI_clamp (show y' < 2 ^ 31 by omega)]
  exact hW.stA hc' hk' hok'
theorem ok_set {A : Ab} (h : OKA A) (c k x : Int32) : OKA (nxSet A c k x) := by
  unfold nxSet
  split
  · rename_i ht
    exact ⟨wf_set h.1 ht, h.2⟩
  · exact h
theorem ok_keep {A : Ab} (h : OKA A) (k : Int32) : OKA (nxKeep A k) := by
  unfold nxKeep
  split
  · refine ⟨h.1, h.2.1, h.2.2.1, fun j hj P hP => ?_, h.2.2.2.2⟩
    have hP : (if j = k.toNatClampNeg then some (aP A) else aI A j) = some P := hP
    split at hP
    · cases hP
      exact h.1
    · exact h.2.2.2.1 j hj P hP
  · exact h
theorem ok_back {A : Ab} (h : OKA A) (k : Int32) : OKA (nxBack A k) := by
  unfold nxBack
  split
  · rename_i hk
    have d2 := of_decide_eq_true hk
    obtain ⟨j, rfl, hj⟩ := rng (M := 2) (by decide) d2.1 d2.2
    rw [nI_clamp (show j < 2 ^ 31 by omega)]
    split
    · rename_i P hP
      exact ⟨h.2.2.2.1 j hj P hP, h.2⟩
    · exact h
  · exact h
theorem ok_putS {A : Ab} (h : OKA A) (k : Nat) {l n : Nat} (hl : l < 3) (hn : n ≤ 40) (cs : Nat → Int32) : OKA (putS A k (some (l, n, cs))) := by
  refine ⟨h.1, h.2.1, h.2.2.1, h.2.2.2.1, fun j hj l' n' cs' e => ?_, h.2.2.2.2.2⟩
  have e : (if j = k then some (l, n, cs) else aS A j) = some (l', n', cs') := e
  split at e
  · cases e
    exact ⟨hl, hn⟩
  · exact h.2.2.2.2.1 j hj l' n' cs' e
theorem ok_sheet {A : Ab} (h : OKA A) (k l n : Int32) : OKA (nxSheet A k l n) := by
  unfold nxSheet
  split
  · rename_i hx
    obtain ⟨⟨-, hl, hn⟩, hn0⟩ := hx
    obtain ⟨j, hj, rfl⟩ := ge0 (Int32.not_lt.mpr hl.1)
    obtain ⟨m, hm, rfl⟩ := ge0 hn0
    rw [nI_clamp hj, nI_clamp hm]
    have h1 : j ≤ 2 := (nI_leI (b := 2) hj (by decide)).mp hl.2
    have h2 : m ≤ 40 := (nI_leI (b := 40) hm (by decide)).mp hn
    exact ok_putS h _ (by omega) h2 _
  · exact h
theorem ok_lay {A : Ab} (h : OKA A) (k i v : Int32) : OKA (nxLay A k i v) := by
  unfold nxLay
  split
  · rename_i hk
    obtain ⟨j, rfl, hj⟩ := rng (M := 4) (by decide) hk.1 hk.2
    rw [nI_clamp (show j < 2 ^ 31 by omega)]
    split
    · exact h
    · rename_i l n cs e
      obtain ⟨h1, h2⟩ := h.2.2.2.2.1 j hj l n cs e
      split
      · exact ok_putS h _ h1 h2 _
      · exact h
  · exact h
theorem rd_ok {s : Shp} {l x : Int32} : ∀ (d i : Nat) (P : Pg), WF P → ∀ q, rdN s l x d i P = .inl q → WF q.2.2 ∧ q.2.1 < 10
  | 0, i, P, hW, q, e => by
    cases e
    exact ⟨hW, by show 0 < 10; decide⟩
  | d + 1, i, P, hW, q, e => by
    unfold rdN at e
    split at e
    · split at e
      · split at e
        · rename_i ht
          exact rd_ok d (i + 1) _ (wf_set hW ht) q e
        · cases e
      · cases e
    · cases e
      have := ftI_lt s l (x + 3 * nI i) 3
      exact ⟨hW, by show ftI s l (x + 3 * nI i) 3 < 10; omega⟩
theorem ok_read {A : Ab} (h : OKA A) (k l x n : Int32) : OKA (nxRead A k l x n) := by
  unfold nxRead
  split
  · split
    · rename_i q e
      obtain ⟨h1, h2⟩ := rd_ok _ _ _ h.1 q e
      exact ⟨h1, h.2.1, h.2.2.1, h.2.2.2.1, h.2.2.2.2.1, h2⟩
    · exact h
  · exact h
