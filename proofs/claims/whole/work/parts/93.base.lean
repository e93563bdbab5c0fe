/-! the world at the loop's start -/
theorem q_cell {cA : ClassId} {n : Nat} {g g' : Nat → Option Nat} (h : ∀ j, j < n → g j = g' j) : vp_cell cA (n, .inr (.inr (.inr (.inr g)))) = vp_cell cA (n, .inr (.inr (.inr (.inr g')))) := by
  unfold vp_cell arrV
  simp only
  congr 2
  funext j
  rw [h j.1 j.2]
def A00 : Ab := (([], []), [], 0, fun _ => none, fun _ => none, 0)
theorem rc_00 : RepC f00 a00 A00 := by
  refine ⟨⟨rfl, rfl, fun i h => absurd h (Nat.not_lt_zero i), fun i h => absurd h (Nat.not_lt_zero i)⟩, ⟨rfl, fun i h => absurd h (Nat.not_lt_zero i), rfl⟩, fun k _ => ⟨rfl, fun P h => by cases h⟩, fun k _ => ?_, rfl, Or.inl rfl, fun k _ i _ => ⟨0, by decide, ?_⟩⟩
  · show f00 2 k 1 = -1
    rfl
  · rfl
theorem rm_00 : RepM f00 a00 A00 := by
  refine ⟨⟨rfl, rfl, fun i h => absurd h (Nat.not_lt_zero i), fun i h => absurd h (Nat.not_lt_zero i)⟩, ⟨rfl, fun i h => absurd h (Nat.not_lt_zero i), rfl⟩, fun k _ => ⟨rfl, fun P h => by cases h⟩, fun k hk => ?_, rfl, rfl⟩
  show a00 5 0 23 k = -4
  rcases (show k = 0 ∨ k = 1 ∨ k = 2 ∨ k = 3 by omega) with rfl | rfl | rfl | rfl <;> rfl
theorem ok_00 : OKA A00 := by
  refine ⟨⟨by decide, by decide, fun i h => absurd h (Nat.not_lt_zero i), fun i h => absurd h (Nat.not_lt_zero i)⟩, ⟨by decide, fun i h => absurd h (Nat.not_lt_zero i)⟩, by decide, fun k _ P h => ?_, fun k _ l n cs h => ?_, by decide⟩
  · cases h
  · cases h
section World
variable {D : va_G} {cy : Nat → ClassId} {A : Nat → Prop} {H : Heap} {sa : Nat → Nat} {h4 h5 : Nat} {u : List Nat} {v : Nat × Nat × Nat × Nat × Nat × Nat × Nat × Nat × Nat × Nat × Nat × Nat × Nat × Nat × Nat × Nat × Nat × Nat}
theorem w_at23 : (wX4 cy h4 u ++ wX5 cy h5 v)[23]? = some (u.getD 22 0, rowQ cy 3 2 (va_up (va_up (fun _ => none) 0 (some (u.getD 25 0))) 1 (some (u.getD 30 0)))) := rfl
theorem w_at25 : (wX4 cy h4 u ++ wX5 cy h5 v)[25]? = some (u.getD 24 0, rowQ cy 4 4 (va_up (va_up (va_up (va_up (fun _ => none) 0 (some (u.getD 35 0))) 1 (some (u.getD 37 0))) 2 (some (u.getD 39 0))) 3 (some (u.getD 41 0)))) := rfl
theorem w_all (hP : va_P D vwCl (wX4 cy h4 u ++ wX5 cy h5 v) H) (hD : va_D A (wX4 cy h4 u ++ wX5 cy h5 v)) : va_P D vwCl (wAll cy sa h4 u h5 v) H ∧ va_D A (wAll cy sa h4 u h5 v) := by
  have h1 : va_at D vwCl (u.getD 22 0, rowQ cy 3 2 (fun j => some (adF sa h4 u h5 v (1, 2 + j, 0)))) H := by
    have h := hP 23 _ w_at23
    show H[u.getD 22 0]? = some (vp_cell (cy 3) (2, .inr (.inr (.inr (.inr (fun j => some (adF sa h4 u h5 v (1, 2 + j, 0))))))))
    refine Eq.trans h (congrArg some (q_cell (fun j hj => ?_)))
    rcases (show j = 0 ∨ j = 1 by omega) with rfl | rfl <;> rfl
  have h2 : va_at D vwCl (u.getD 24 0, rowQ cy 4 4 (fun j => some (adF sa h4 u h5 v (2, 0 + j, 0)))) H := by
    have h := hP 25 _ w_at25
    show H[u.getD 24 0]? = some (vp_cell (cy 4) (4, .inr (.inr (.inr (.inr (fun j => some (adF sa h4 u h5 v (2, 0 + j, 0))))))))
    refine Eq.trans h (congrArg some (q_cell (fun j hj => ?_)))
    rcases (show j = 0 ∨ j = 1 ∨ j = 2 ∨ j = 3 by omega) with rfl | rfl | rfl | rfl <;> rfl
  have hP1 := hP.set hD w_at23 h1 (fun _ _ => rfl)
  have hD1 : va_D A ((wX4 cy h4 u ++ wX5 cy h5 v).set 23 (u.getD 22 0, rowQ cy 3 2 (fun j => some (adF sa h4 u h5 v (1, 2 + j, 0))))) := hD.set w_at23
  have q25 : ((wX4 cy h4 u ++ wX5 cy h5 v).set 23 (u.getD 22 0, rowQ cy 3 2 (fun j => some (adF sa h4 u h5 v (1, 2 + j, 0)))))[25]? = some (u.getD 24 0, rowQ cy 4 4 (va_up (va_up (va_up (va_up (fun _ => none) 0 (some (u.getD 35 0))) 1 (some (u.getD 37 0))) 2 (some (u.getD 39 0))) 3 (some (u.getD 41 0)))) := by
    rw [List.getElem?_set_ne (by decide)]
    exact w_at25
  exact ⟨hP1.set hD1 q25 h2 (fun _ _ => rfl), hD1.set q25⟩
theorem map_some {α β : Type} {g : α → Option β} : ∀ {is : List α} {r : List β}, is.map g = r.map some → is.filterMap g = r
  | [], [], _ => rfl
  | [], _ :: _, h => by cases h
  | _ :: _, [], h => by cases h
  | x :: is, y :: r, h => by
    rw [List.map_cons, List.map_cons] at h
    obtain ⟨h1, h2⟩ := List.cons.inj h
    rw [List.filterMap_cons_some h1, map_some h2]
theorem w_cells (hP : va_P D vwCl (wX4 cy h4 u ++ wX5 cy h5 v) H) (hD : va_D A (wX4 cy h4 u ++ wX5 cy h5 v)) : va_P D vwCl (cells (adF sa h4 u h5 v) cy f00 a00) H ∧ va_D A (cells (adF sa h4 u h5 v) cy f00 a00) := by
  obtain ⟨h1, h2⟩ := w_all (sa := sa) hP hD
  exact ⟨h1.sub permW (map_some (cells_eq cy sa h4 u h5 v)), h2.sub permW (by decide +kernel) (cells_eq cy sa h4 u h5 v)⟩
/-- the world's constants behind both constructors -/
def gmW (l : Launch) (ad : Ky → Nat) (D : va_G) (cy : Nat → ClassId) (A : Nat → Prop) : Gm := (l, ad, D, cy, fun U => va_K D vwCl (tyl cy) U ∧ gX ad A U, A)
theorem gm_ok {l : Launch} {ad : Ky → Nat} {f : FF} {a : AA} (hD : va_D A (cells ad cy f a)) : GmOK (gmW l ad D cy A) := by
  refine ⟨fun p q hp hq hpq => ?_, fun p hp => ?_, fun U h => h.1, fun U U' hW _ hq h => ⟨va_K.moved hW.alike h.1, gX_moved hW hq h.2⟩, fun U h => h.2⟩
  · obtain ⟨i, h1, h2⟩ := cells_at (ad := ad) (cy := cy) f a hp
    obtain ⟨j, h3, h4⟩ := cells_at (ad := ad) (cy := cy) f a hq
    have := hD.1 i j _ _ h2 h4 hpq
    subst this
    exact Option.some.inj (h1.symm.trans h3)
  · obtain ⟨i, h1, h2⟩ := cells_at (ad := ad) (cy := cy) f a hp
    exact hD.2 i _ h2
end World
