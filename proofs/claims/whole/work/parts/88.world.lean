/-! the world behind both constructors -/
def adT (h4 : Nat) (u : List Nat) (h5 : Nat) (v : Nat × Nat × Nat × Nat × Nat × Nat × Nat × Nat × Nat × Nat × Nat × Nat × Nat × Nat × Nat × Nat × Nat × Nat) : List (List (List Nat)) := [[[u.getD 12 0, u.getD 13 0, u.getD 14 0, u.getD 15 0, u.getD 16 0, 0, 0, u.getD 17 0, u.getD 18 0, u.getD 19 0, u.getD 20 0, u.getD 21 0]],
  [[u.getD 2 0, u.getD 3 0, u.getD 4 0, u.getD 5 0, u.getD 6 0], [u.getD 7 0, u.getD 8 0, u.getD 9 0, u.getD 10 0, u.getD 11 0], [u.getD 25 0, u.getD 26 0, u.getD 27 0, u.getD 28 0, u.getD 29 0], [u.getD 30 0, u.getD 31 0, u.getD 32 0, u.getD 33 0, u.getD 34 0]],
  [[u.getD 35 0, u.getD 36 0], [u.getD 37 0, u.getD 38 0], [u.getD 39 0, u.getD 40 0], [u.getD 41 0, u.getD 42 0]],
  [[u.getD 0 0, u.getD 1 0]],
  [[h4, 0, 0, 0, 0, u.getD 22 0, u.getD 23 0, u.getD 24 0]],
  [[h5, v.1, v.2.1, v.2.2.1, v.2.2.2.1, v.2.2.2.2.1, 0, 0, 0, 0, 0, 0, 0, v.2.2.2.2.2.1, v.2.2.2.2.2.2.1, v.2.2.2.2.2.2.2.1, v.2.2.2.2.2.2.2.2.1, v.2.2.2.2.2.2.2.2.2.1, v.2.2.2.2.2.2.2.2.2.2.1, 0, v.2.2.2.2.2.2.2.2.2.2.2.1, 0, v.2.2.2.2.2.2.2.2.2.2.2.2.1, v.2.2.2.2.2.2.2.2.2.2.2.2.2.1, v.2.2.2.2.2.2.2.2.2.2.2.2.2.2.1, v.2.2.2.2.2.2.2.2.2.2.2.2.2.2.2.1, v.2.2.2.2.2.2.2.2.2.2.2.2.2.2.2.2.1, 0, v.2.2.2.2.2.2.2.2.2.2.2.2.2.2.2.2.2]]]
def adF (sa : Nat → Nat) (h4 : Nat) (u : List Nat) (h5 : Nat) (v : Nat × Nat × Nat × Nat × Nat × Nat × Nat × Nat × Nat × Nat × Nat × Nat × Nat × Nat × Nat × Nat × Nat × Nat) : Ky → Nat := fun q => if q.1 = 9 then sa q.2.1 else (((adT h4 u h5 v).getD q.1 []).getD q.2.1 []).getD q.2.2 0
def f00 : FF := fun t _ k => if t = 2 ∧ k = 1 then -1 else if t = 4 ∧ k = 7 then 1 else if t = 5 ∧ k = 20 then -4 else 0
def a00 : AA := fun t _ k => if t = 5 ∧ k = 23 then upd (upd (upd (upd (fun _ => 0) 0 (-4)) 1 (-4)) 2 (-4)) 3 (-4) else fun _ => 0
def rowQ (cy : Nat → ClassId) (j n : Nat) (g : Nat → Option Nat) : va_E := .inl (cy j, n, .inr (.inr (.inr (.inr g))))
def permW : List Nat := [13, 14, 15, 16, 17, 18, 19, 20, 21, 22, 3, 4, 5, 6, 7, 8, 9, 10, 11, 12, 26, 27, 28, 29, 30, 31, 32, 33, 34, 35, 36, 37, 38, 39, 40, 41, 42, 43, 1, 2, 0, 23, 24, 25, 44, 45, 46, 47, 48, 49, 50, 51, 52, 53, 54, 55, 56, 57, 58, 59, 60, 61, 62]
/-- the rows of references as the machine of these rows tells them -/
def wAll (cy : Nat → ClassId) (sa : Nat → Nat) (h4 : Nat) (u : List Nat) (h5 : Nat) (v : Nat × Nat × Nat × Nat × Nat × Nat × Nat × Nat × Nat × Nat × Nat × Nat × Nat × Nat × Nat × Nat × Nat × Nat) : va_W := ((wX4 cy h4 u ++ wX5 cy h5 v).set 23 (u.getD 22 0, rowQ cy 3 2 (fun j => some (adF sa h4 u h5 v (1, 2 + j, 0))))).set 25 (u.getD 24 0, rowQ cy 4 4 (fun j => some (adF sa h4 u h5 v (2, 0 + j, 0))))
set_option maxHeartbeats 4000000 in
set_option maxRecDepth 100000 in
theorem cells_eq (cy : Nat → ClassId) (sa : Nat → Nat) (h4 : Nat) (u : List Nat) (h5 : Nat) (v : Nat × Nat × Nat × Nat × Nat × Nat × Nat × Nat × Nat × Nat × Nat × Nat × Nat × Nat × Nat × Nat × Nat × Nat) : permW.map (fun i => (wAll cy sa h4 u h5 v)[i]?) = (cells (adF sa h4 u h5 v) cy f00 a00).map some := rfl
