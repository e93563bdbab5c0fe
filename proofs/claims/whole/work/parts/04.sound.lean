/-! the world: where a cell stands, what a write makes of it -/
theorem ks_nd : KS.Nodup := by decide +kernel
theorem ks_get0 : KS.all (fun q => !(Nat.beq q.2.2 0) || (List.range (nfl q.1)).all (fun k => match fk q.1 k with
    | 0 => true
    | 1 => true
    | 6 => KS.contains (oref k)
    | _ => KS.contains (q.1, q.2.1, k + 1))) = true := by decide +kernel
theorem ks_ref0 : KS.all (fun q => match q with
    | (4, _, k + 1) => !(Nat.beq (fk 4 k) 5) || (List.range (al 4 k)).all (fun j => KS.contains ((raf k).1, (raf k).2 + j, 0))
    | _ => true) = true := by decide +kernel
theorem ks_nine : ∀ q ∈ KS, q.1 < 6 := by decide +kernel
theorem ks_nfl : ∀ t, t < 6 → (vwCl[t]?).map (fun q => q.2.2) = some (nfl t) := by decide +kernel
theorem ks_has {q : Ky} (h : kok q) (hn : q.1 < 6) : q ∈ KS := h.elim id (fun h => by have := h.1; omega)
theorem ks_has1 {t i k : Nat} (h : kok (t, i, k + 1)) : (t, i, k + 1) ∈ KS := h.elim id (fun h => absurd h.2.2 (Nat.succ_ne_zero k))
theorem ks_get (f : FF) {t i k : Nat} (h : (t, i, 0) ∈ KS) (hk : k < nfl t) : vld (gfv f t i k) := by
  have h1 := List.all_eq_true.mp ks_get0 _ h
  simp only [Nat.beq_refl, Bool.not_true, Bool.false_or] at h1
  have h2 := List.all_eq_true.mp h1 k (List.mem_range.mpr hk)
  unfold gfv
  split <;> rename_i hf <;> simp only [hf] at h2
  · trivial
  · trivial
  · exact Or.inl (List.contains_iff_mem.mp h2)
  · exact Or.inl (List.contains_iff_mem.mp h2)
theorem ks_ref {i k j : Nat} (h : (4, i, k + 1) ∈ KS) (hf : fk 4 k = 5) (hj : j < al 4 k) : ((raf k).1, (raf k).2 + j, 0) ∈ KS := by
  have h1 := List.all_eq_true.mp ks_ref0 _ h
  simp only [hf, Nat.beq_refl, Bool.not_true, Bool.false_or] at h1
  exact List.contains_iff_mem.mp (List.all_eq_true.mp h1 j (List.mem_range.mpr hj))
theorem cells_at {ad : Ky → Nat} {cy : Nat → ClassId} (f : FF) (a : AA) {q : Ky} (h : q ∈ KS) : ∃ q0 : Nat, KS[q0]? = some q ∧ (cells ad cy f a)[q0]? = some (ad q, el ad cy f a q) := by
  obtain ⟨q0, h0⟩ := List.getElem?_of_mem h
  exact ⟨q0, h0, by rw [cells, List.getElem?_map, h0]; rfl⟩
theorem cells_set {ad : Ky → Nat} {cy : Nat → ClassId} {f f' : FF} {a a' : AA} {q : Ky} {q0 : Nat} {e : va_E} (h0 : KS[q0]? = some q) (he : el ad cy f' a' q = e) (ho : ∀ q', q' ≠ q → el ad cy f' a' q' = el ad cy f a q') : (cells ad cy f a).set q0 (ad q, e) = cells ad cy f' a' := by
  apply List.ext_getElem?
  intro j
  by_cases hj : j = q0
  · subst hj
    have hl : j < (cells ad cy f a).length := by
      rw [cells, List.length_map]
      exact (List.getElem?_eq_some_iff.mp h0).1
    rw [List.getElem?_set_self hl, cells, List.getElem?_map, h0, ← he]
    rfl
  · rw [List.getElem?_set_ne (Ne.symm hj), cells, cells, List.getElem?_map, List.getElem?_map]
    cases hk : KS[j]? with
    | none => rfl
    | some q' =>
      have hne : q' ≠ q := by
        intro heq
        subst heq
        exact hj ((List.getElem?_inj (List.getElem?_eq_some_iff.mp hk).1 ks_nd).mp (hk.trans h0.symm))
      show some (ad q', _) = some (ad q', _)
      rw [ho q' hne]
theorem upf_ne {f : FF} {t i k t' i' k' : Nat} {x : Int32} (h : ¬ (t' = t ∧ i' = i ∧ k' = k)) : upf f t i k x t' i' k' = f t' i' k' := if_neg h
theorem upf_eq {f : FF} {t i k : Nat} {x : Int32} : upf f t i k x t i k = x := if_pos ⟨rfl, rfl, rfl⟩
theorem upA_ne {a : AA} {t i k t' i' k' : Nat} {x : Nat → Int32} (h : ¬ (t' = t ∧ i' = i ∧ k' = k)) : upA a t i k x t' i' k' = a t' i' k' := if_neg h
theorem upA_eq {a : AA} {t i k : Nat} {x : Nat → Int32} : upA a t i k x t i k = x := if_pos ⟨rfl, rfl, rfl⟩
theorem gfv_ne {f : FF} {t i k t' i' k' : Nat} {x : Int32} (h : ¬ (t' = t ∧ i' = i ∧ k' = k)) : gfv (upf f t i k x) t' i' k' = gfv f t' i' k' := by
  unfold gfv
  rw [upf_ne h]
theorem el_upf {ad : Ky → Nat} {cy : Nat → ClassId} {f : FF} {a : AA} {t i k : Nat} {x : Int32} (hf : fk t k = 0 ∨ fk t k = 1) : el ad cy (upf f t i k x) a (t, i, 0) = .inr (t, ((List.range (nfl t)).map (fun k => cv ad (gfv f t i k))).set k (.int x)) := by
  show Sum.inr (t, _) = _
  congr 2
  apply List.ext_getElem?
  intro j
  rw [List.getElem?_map]
  by_cases hj : j = k
  · subst hj
    by_cases hl : j < nfl t
    · rw [List.getElem?_set_self (by rw [List.length_map, List.length_range]; exact hl), List.getElem?_range hl]
      show some _ = some _
      congr 1
      unfold gfv
      rcases hf with hf | hf <;> simp [hf, cv, upf]
    · rw [List.getElem?_eq_none (by rw [List.length_range]; omega), List.getElem?_eq_none (by rw [List.length_set, List.length_map, List.length_range]; omega)]
      rfl
  · rw [List.getElem?_set_ne (Ne.symm hj), List.getElem?_map]
    by_cases hl : j < nfl t
    · rw [List.getElem?_range hl]
      show some (cv ad (gfv (upf f t i k x) t i j)) = some (cv ad (gfv f t i j))
      rw [gfv_ne (t' := t) (i' := i) (k' := j) (fun q => hj q.2.2)]
    · rw [List.getElem?_eq_none (by rw [List.length_range]; omega)]
      rfl
theorem el_upf' {ad : Ky → Nat} {cy : Nat → ClassId} {f : FF} {a : AA} {t i k : Nat} {x : Int32} (q : Ky) (h : q ≠ (t, i, 0)) : el ad cy (upf f t i k x) a q = el ad cy f a q := by
  obtain ⟨t', i', k'⟩ := q
  cases k' with
  | succ k' => rfl
  | zero =>
    have hn : ∀ j, ¬ (t' = t ∧ i' = i ∧ j = k) := fun j hj => h (by rw [hj.1, hj.2.1])
    show Sum.inr (t', _) = Sum.inr (t', _)
    congr 2
    apply List.map_congr_left
    intro j _
    rw [gfv_ne (hn j)]
theorem el_upA' {ad : Ky → Nat} {cy : Nat → ClassId} {f : FF} {a : AA} {t i k : Nat} {x : Nat → Int32} (q : Ky) (h : q ≠ (t, i, k + 1)) : el ad cy f (upA a t i k x) q = el ad cy f a q := by
  obtain ⟨t', i', k'⟩ := q
  cases k' with
  | zero => rfl
  | succ k' =>
    have hn : ¬ (t' = t ∧ i' = i ∧ k' = k) := fun hj => h (by rw [hj.1, hj.2.1, hj.2.2])
    simp only [el, upA_ne hn]
/-- the place of a row in the list of array kinds -/
theorem el_row {ad : Ky → Nat} {cy : Nat → ClassId} {f : FF} {a : AA} {t i k : Nat} : (fk t k = 2 → el ad cy f a (t, i, k + 1) = .inl (cy 0, al t k, .inl (a t i k))) ∧ (fk t k = 3 → el ad cy f a (t, i, k + 1) = .inl (cy 1, al t k, .inl (a t i k))) ∧ (fk t k = 4 → el ad cy f a (t, i, k + 1) = .inl (cy 2, al t k, .inl (a t i k))) ∧ (fk t k = 5 → el ad cy f a (t, i, k + 1) = .inl (cy (2 + (raf k).1), al t k, .inr (.inr (.inr (.inr (fun j => some (ad ((raf k).1, (raf k).2 + j, 0)))))))) := by
  refine ⟨?_, ?_, ?_, ?_⟩ <;> intro h <;> simp only [el, h]
theorem gD_ok {g : Gm} (hg : GmOK g) (f : FF) (a : AA) : va_D (gA g) (cells (gAd g) (gCy g) f a) := by
  refine ⟨fun i j p q hi hj hpq => ?_, fun k q hk => ?_⟩
  · rw [cells, List.getElem?_map] at hi hj
    cases h1 : KS[i]? with
    | none => rw [h1] at hi; cases hi
    | some x =>
      cases h2 : KS[j]? with
      | none => rw [h2] at hj; cases hj
      | some y =>
        rw [h1] at hi; rw [h2] at hj
        cases hi; cases hj
        have hxy : x = y := hg.1 x y (List.mem_of_getElem? h1) (List.mem_of_getElem? h2) hpq
        subst hxy
        exact (List.getElem?_inj (List.getElem?_eq_some_iff.mp h1).1 ks_nd).mp (h1.trans h2.symm)
  · rw [cells, List.getElem?_map] at hk
    cases h1 : KS[k]? with
    | none => rw [h1] at hk; cases hk
    | some x =>
      rw [h1] at hk
      cases hk
      exact hg.2.1 x (List.mem_of_getElem? h1)
/-! locals -/
theorem lget_lt : ∀ {ls : Lcs} {j : Nat} {v : AV}, lget ls j = some v → j < ls.length
  | [], _, _, h => by cases h
  | _ :: _, 0, _, _ => Nat.succ_pos _
  | _ :: r, j + 1, _, h => Nat.succ_lt_succ (lget_lt (ls := r) h)
theorem lset_len : ∀ (ls : Lcs) (n : Nat) (x : Option AV), (lset ls n x).length = ls.length
  | [], _, _ => rfl
  | _ :: _, 0, _ => rfl
  | _ :: r, n + 1, x => congrArg (· + 1) (lset_len r n x)
theorem lget_set_ne : ∀ (ls : Lcs) {n j : Nat} (x : Option AV), j ≠ n → lget (lset ls n x) j = lget ls j
  | [], _, _, _, _ => rfl
  | _ :: _, 0, 0, _, h => absurd rfl h
  | _ :: _, 0, _ + 1, _, _ => rfl
  | _ :: _, _ + 1, 0, _, _ => rfl
  | _ :: r, n + 1, j + 1, x, h => lget_set_ne r x (fun e => h (by rw [e]))
theorem lget_set_eq : ∀ (ls : Lcs) {n : Nat} (x v : Option AV), lget (lset ls n x) n = v → v = none ∨ v = x
  | [], _, _, _, h => Or.inl h.symm
  | _ :: _, 0, _, _, h => Or.inr h.symm
  | _ :: r, n + 1, x, v, h => lget_set_eq r x v h
theorem frc_eq : ∀ (ls : Lcs) (k : Lcs → Prop), frc ls k = k ls
  | [], _ => rfl
  | v :: r, k => frc_eq r (fun r' => k (v :: r'))
theorem cv_cat (ad : Ky → Nat) (v : AV) : (cv ad v).category = cat1 v := by
  rcases v with x | x | k <;> rfl
theorem LV.at {ad : Ky → Nat} {nL : Nat} {ls : Lcs} {A : Array Slot} (h : LV ad nL ls A) {j : Nat} {v : AV} (hj : lget ls j = some v) : A[j]? = some (.val (cv ad v)) ∧ vld v := by
  obtain ⟨-, lv, hl, hm⟩ := h
  exact ⟨hl.2.2 _ (hm j v hj).1, (hm j v hj).2⟩
theorem LV.set1 {ad : Ky → Nat} {nL : Nat} {ls : Lcs} {A' : Array Slot} {lv : List (Nat × Value)} {n : Nat} {v : AV} (hlen : ls.length = nL) (hm : ∀ (j : Nat) (v : AV), lget ls j = some v → (j, cv ad v) ∈ lv ∧ vld v) (hno : nol ls n = true) (hv : vld v)
    (h' : lv_has A' nL ((n, cv ad v) :: lv.filter (fun q => !(q.1 == n) && !(q.1 + 1 == n && q.2.category == 2)))) : LV ad nL (lset ls n (some v)) A' := by
  refine ⟨(lset_len ls n _).trans hlen, _, h', fun j w hj => ?_⟩
  by_cases hjn : j = n
  · subst hjn
    rcases lget_set_eq ls _ _ hj with h | h
    · cases h
    · cases h
      exact ⟨List.mem_cons_self, hv⟩
  · rw [lget_set_ne ls _ hjn] at hj
    refine ⟨List.mem_cons_of_mem _ (List.mem_filter.mpr ⟨(hm j w hj).1, ?_⟩), (hm j w hj).2⟩
    have h1 : (j == n) = false := by simp [hjn]
    have h2 : (j + 1 == n && (cv ad w).category == 2) = false := by
      by_cases hq : j + 1 = n
      · subst hq
        rw [cv_cat]
        have h3 : (match lget ls j with
          | some (.inr (.inl _)) => false
          | _ => true) = true := hno
        rw [hj] at h3
        rcases w with x | x | k
        · simp [cat1]
        · cases h3
        · simp [cat1]
      · simp [hq]
    simp only [h1, h2, Bool.not_false, Bool.and_self]
