/-! from the law's entry to its end -/
set_option maxHeartbeats 4000000 in
theorem whole_start {p : Program} {e : Env} {s : State} {m : MethodId} {below : List Frame} {meth : Method} {c : Code} (l : Launch) (hflags : l.flags = flags0) {b L : Nat} {xs : Nat → Int32} (hL : L ≤ 2560) (C0 : lw_At p s m meth c b L xs) : W p l e room_1 s m #[Value.ref b] below meth c s.heap [] 0 0 (lw_Z below #[Value.ref b] s) (entryFrame m ([Value.ref b] : List Value).toArray 4) := by
  obtain ⟨hx, hb, hr, hml, hown, hts, hX, hbl, hlocks, hgv⟩ := C0
  have hw := tblWS hts
  obtain ⟨D, cy, hK⟩ := k_start hts
  obtain ⟨sa, hsa⟩ := gX_start hts hgv
  have hl := lv_entry ([.ref b]) (n := 4) (Nat.le_of_ble_eq_true rfl)
  rw [lg_entry_eq]
  generalize (lg_sl ([.ref b]) ++ List.replicate (4 - (lg_sl ([.ref b])).length) Slot.unset).toArray = ls at hl ⊢
  have hl : lv_has ls 4 [(0, .ref b)] := hl
  refine newL (t := 4) (N := 9) (i0 := 7) (i1 := 9) (pc := 0) (ws := []) hx hb hml hown hw hK hl.1 CT4 (bX4 l D cy) (fun U U' h => ex_warm h) (ex_start hts) (fun k q h => by cases h) ⟨(fun i j p q h => by cases h), (fun k q h => by cases h)⟩ va_S.rf clL_7 inX4_n inX4_i tyX4 tyX4_ok dfX4 (inWS 73 (by decide +kernel) rfl) imX4 rfl lkX4 ⟨Nat.le_of_ble_eq_true rfl, Nat.le_of_ble_eq_true rfl⟩ (Nat.le_of_ble_eq_true rfl) (Nat.le_of_ble_eq_true rfl) (show decode code 0 = .ok (.new 7, 3) by decide +kernel) (show decode code 3 = .ok (.dup, 1) by decide +kernel) (show decode code 4 = .ok (.invokespecial 9, 3) by decide +kernel) (fun h4 u H locs hP hD hS => ?_)
  refine lv_astore_n (lv' := [(1, .ref h4), (0, .ref b)]) hx hb (show decode code 7 = .ok (.astore_n 1, 1) by decide +kernel) rfl hl (by decide) rfl (fun ls hl => ?_)
  refine newL (t := 5) (N := 28) (i0 := 10) (i1 := 12) (pc := 8) (ws := wX4 cy h4 u) hx hb hml hown hw hK hl.1 CT5 (bX5 l D cy) (fun U U' h => id) trivial hP hD hS clL_10 inX5_n inX5_i tyX5 tyX5_ok dfX5 (inWS 720 (by decide +kernel) rfl) imX5 rfl lkX5 ⟨Nat.le_of_ble_eq_true rfl, Nat.le_of_ble_eq_true rfl⟩ (Nat.le_of_ble_eq_true rfl) (Nat.le_of_ble_eq_true rfl) (show decode code 8 = .ok (.new 10, 3) by decide +kernel) (show decode code 11 = .ok (.dup, 1) by decide +kernel) (show decode code 12 = .ok (.invokespecial 12, 3) by decide +kernel) (fun h5 v H locs hP hD hS => ?_)
  refine lv_astore_n (lv' := [(2, .ref h5), (1, .ref h4), (0, .ref b)]) hx hb (show decode code 15 = .ok (.astore_n 2, 1) by decide +kernel) rfl hl (by decide) rfl (fun ls hl => ?_)
  refine lv_iconst hx hb (show decode code 16 = .ok (.iconst 0, 1) by decide +kernel) (show Int32.ofInt 0 = nI 0 by decide) ?_
  refine lv_istore_n (lv' := [(3, .int (nI 0)), (2, .ref h5), (1, .ref h4), (0, .ref b)]) hx hb (show decode code 17 = .ok (.istore_n 3, 1) by decide +kernel) rfl hl (by decide) rfl (fun ls hl => ?_)
  obtain ⟨hP1, hD1⟩ := w_cells (sa := sa) hP hD
  have hg : GmOK (gmW l (adF sa h4 u h5 v) D cy (fun q => s.heap.size ≤ q)) := gm_ok hD1
  have F : LF (gmW l (adF sa h4 u h5 v) D cy (fun q => s.heap.size ≤ q)) p s m #[Value.ref b] c b L xs := ⟨hg, hx, hb, hml, hown, hw, ⟨hK, hsa _ (fun i => rfl)⟩, hX, hbl, Nat.not_le.mpr hbl⟩
  refine W.widen (k := 63) (n := 11682) (Nat.le_of_ble_eq_true rfl) (Nat.le_of_ble_eq_true rfl) ?_
  refine loopL (g := gmW l (adF sa h4 u h5 v) D cy (fun q => s.heap.size ≤ q)) F hL ⟨Nat.le_of_ble_eq_true rfl, Nat.le_of_ble_eq_true rfl⟩ (fun H locs ls hS => ?_) L 0 (Nat.sub_le L 0) (Nat.zero_le L) f00 a00 A00 H locs ls hP1 hS rc_00 rm_00 ok_00 hl
  refine lv_iconst hx hb (show decode code 970 = .ok (.iconst 1, 1) by decide +kernel) (show Int32.ofInt 1 = 1 by decide) ?_
  refine va_forget (fun q hq => hS.2.2 q hq) ?_
  refine W.widen (k := 600000) (n := 7302250) (Nat.le_of_ble_eq_true rfl) (Nat.le_of_ble_eq_true rfl) ?_
  exact lw_ret hx hb hr hlocks (show decode code 971 = .ok (.ireturn, 1) by decide +kernel)
