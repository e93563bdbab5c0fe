/-! constructors that make arrays alone -/
theorem CT0 : CT 0 11 RX0 TX0 := ⟨rfl, inX0, ⟨tyX0, tyX0_ok⟩, nmX0⟩
theorem CT1 : CT 1 6 RX1 TX1 := ⟨rfl, inX1, ⟨tyX1, tyX1_ok⟩, nmX1⟩
theorem CT2 : CT 2 3 RX2 TX2 := ⟨rfl, inX2, ⟨tyX2, tyX2_ok⟩, nmX2⟩
theorem CT3 : CT 3 6 RX3 TX3 := ⟨rfl, inX3, ⟨tyX3, tyX3_ok⟩, nmX3⟩
theorem CT4 : CT 4 9 RX4 TX4 := ⟨rfl, inX4, ⟨tyX4, tyX4_ok⟩, nmX4⟩
theorem CT5 : CT 5 28 RX5 TX5 := ⟨rfl, inX5, ⟨tyX5, tyX5_ok⟩, nmX5⟩
def blX1 : List Value := [.null, .null, .null, .null, .int 0, .int 0]
def wX1 (cy : Nat → ClassId) (h0 : Nat) (u : Nat × Nat × Nat × Nat) : va_W := [(h0, .inr (1, [.ref u.1, .ref u.2.1, .ref u.2.2.1, .ref u.2.2.2, .int 0, .int 0])), (u.1, arW cy 0 3), (u.2.1, arW cy 0 12), (u.2.2.1, arW cy 0 12), (u.2.2.2, arW cy 0 24)]
set_option maxHeartbeats 4000000 in
set_option maxRecDepth 100000 in
theorem bX1 (l : Launch) (D : va_G) (cy : Nat → ClassId) : bornM l D cy yX1_init cX1_init 1 { frames := 1, cells := 4, slots := 51, locals := 12 } 1 blX1 (wX1 cy) (fun _ => True) := by
  intro h0 sz
  refine Met.ofW (cc := cX1_init) (maxL := 1) (ret := none) (by decide +kernel) rfl ?_
  intro p e s m args below meth c s₁ B hml hv
  obtain ⟨rfl, ⟨hsz, hP, hK, hD0⟩, -⟩ := hv
  have hx := B.exec
  have hb := B.bytes
  have hr := B.returns
  have hts0 := atoms_spec (ws := Cond.code yX1_init cX1_init 1 none :: WS) B.pre
  have hts : ∀ w ∈ WS, w.before _ s = true := fun w hw => hts0 w (List.mem_cons_of_mem _ hw)
  have hown : s.vm.findClass RX1 = some m.cls := findClass_of_methodNamed B.named
  have hlocks := B.notSynchronized
  have hin : meth.name = "<init>" := (name_of_methodNamed B.named B.method).1
  subst hsz
  have hD := hD0.self (sz := s.heap.size)
  generalize hAe : va_A [(h0, .inr (1, blX1))] s.heap.size = A at hD ⊢
  have hA : ∀ q, s.heap.size ≤ q → A q := fun q h => by rw [← hAe]; exact Or.inr h
  have hS : va_S A s.heap s.heap [] := va_S.rf
  have F : CF p s m _ meth c cX1_init RX1 D cy := ⟨hx, hb, hts, hown, hin, hK⟩
  have hl := lv_entry ([.ref h0]) (n := 1) (Nat.le_of_ble_eq_true rfl)
  rw [lg_entry_eq]
  generalize (lg_sl ([.ref h0]) ++ List.replicate (1 - (lg_sl ([.ref h0])).length) Slot.unset).toArray = ls at hl ⊢
  have hl : lv_has ls 1 [(0, .ref h0)] := hl
  have hl0 : ls[0]? = some (.val (.ref h0)) := lv_at hl 0 rfl
  refine lv_aload_n hx hb (show decode cX1_init 0 = .ok (.aload_n 0, 1) by decide +kernel) rfl hl0 ?_
  refine W.objInit (idx := 3) hx hb hown (hts _ (inWS 114 (by decide +kernel) rfl)) (hts _ (inWS 77 (by decide +kernel) rfl)) (hts _ (inWS 78 (by decide +kernel) rfl)) rfl (by rw [hml]; exact hl.1) rfl (show decode cX1_init 1 = .ok (.invokespecial 3, 3) by decide +kernel) (Nat.le_of_ble_eq_true rfl) (Nat.le_of_ble_eq_true rfl) ?_
  refine W.eq (g2 := F0 m 4 ls []) rfl ?_
  refine mkA (pc := 4) (k := 0) (n := 3) (idx := 9) (lp := 1) (j := 0) (ty := .int) (atype := .int) (ip := .iconst 3) F CT1 hl0 hP hD hS hA (by decide +kernel) (by decide +kernel) (Or.inl ⟨_, rfl, rfl, by decide⟩) (by decide +kernel) (by decide +kernel) (by decide) (inWS 115 (by decide +kernel) rfl) rfl rfl (by decide +kernel) (Nat.le_of_ble_eq_true rfl) (Or.inl ⟨rfl, rfl, rfl⟩) (inWS 145 (by decide +kernel) rfl) (by decide) (Nat.le_of_ble_eq_true rfl) (Nat.le_of_ble_eq_true rfl) (fun q0 H locs hP hD hS => ?_)
  have hP : va_P D vwCl [(h0, .inr (1, [.ref q0, .null, .null, .null, .int 0, .int 0])), (q0, arW cy 0 3)] H := hP
  have hD : va_D A [(h0, .inr (1, [.ref q0, .null, .null, .null, .int 0, .int 0])), (q0, arW cy 0 3)] := hD
  refine W.widen (k := 1) (n := 3) (Nat.le_of_ble_eq_true rfl) (Nat.le_of_ble_eq_true rfl) ?_
  refine mkA (pc := 11) (k := 1) (n := 12) (idx := 15) (lp := 2) (j := 0) (ty := .int) (atype := .int) (ip := .bipush 12) F CT1 hl0 hP hD hS hA (by decide +kernel) (by decide +kernel) (Or.inr (Or.inl ⟨_, rfl, rfl, by decide⟩)) (by decide +kernel) (by decide +kernel) (by decide) (inWS 118 (by decide +kernel) rfl) rfl rfl (by decide +kernel) (Nat.le_of_ble_eq_true rfl) (Or.inl ⟨rfl, rfl, rfl⟩) (inWS 145 (by decide +kernel) rfl) (by decide) (Nat.le_of_ble_eq_true rfl) (Nat.le_of_ble_eq_true rfl) (fun q1 H locs hP hD hS => ?_)
  have hP : va_P D vwCl [(h0, .inr (1, [.ref q0, .ref q1, .null, .null, .int 0, .int 0])), (q0, arW cy 0 3), (q1, arW cy 0 12)] H := hP
  have hD : va_D A [(h0, .inr (1, [.ref q0, .ref q1, .null, .null, .int 0, .int 0])), (q0, arW cy 0 3), (q1, arW cy 0 12)] := hD
  refine W.widen (k := 2) (n := 15) (Nat.le_of_ble_eq_true rfl) (Nat.le_of_ble_eq_true rfl) ?_
  refine mkA (pc := 19) (k := 2) (n := 12) (idx := 18) (lp := 2) (j := 0) (ty := .int) (atype := .int) (ip := .bipush 12) F CT1 hl0 hP hD hS hA (by decide +kernel) (by decide +kernel) (Or.inr (Or.inl ⟨_, rfl, rfl, by decide⟩)) (by decide +kernel) (by decide +kernel) (by decide) (inWS 121 (by decide +kernel) rfl) rfl rfl (by decide +kernel) (Nat.le_of_ble_eq_true rfl) (Or.inl ⟨rfl, rfl, rfl⟩) (inWS 145 (by decide +kernel) rfl) (by decide) (Nat.le_of_ble_eq_true rfl) (Nat.le_of_ble_eq_true rfl) (fun q2 H locs hP hD hS => ?_)
  have hP : va_P D vwCl [(h0, .inr (1, [.ref q0, .ref q1, .ref q2, .null, .int 0, .int 0])), (q0, arW cy 0 3), (q1, arW cy 0 12), (q2, arW cy 0 12)] H := hP
  have hD : va_D A [(h0, .inr (1, [.ref q0, .ref q1, .ref q2, .null, .int 0, .int 0])), (q0, arW cy 0 3), (q1, arW cy 0 12), (q2, arW cy 0 12)] := hD
  refine W.widen (k := 3) (n := 27) (Nat.le_of_ble_eq_true rfl) (Nat.le_of_ble_eq_true rfl) ?_
  refine mkA (pc := 27) (k := 3) (n := 24) (idx := 21) (lp := 2) (j := 0) (ty := .int) (atype := .int) (ip := .bipush 24) F CT1 hl0 hP hD hS hA (by decide +kernel) (by decide +kernel) (Or.inr (Or.inl ⟨_, rfl, rfl, by decide⟩)) (by decide +kernel) (by decide +kernel) (by decide) (inWS 124 (by decide +kernel) rfl) rfl rfl (by decide +kernel) (Nat.le_of_ble_eq_true rfl) (Or.inl ⟨rfl, rfl, rfl⟩) (inWS 145 (by decide +kernel) rfl) (by decide) (Nat.le_of_ble_eq_true rfl) (Nat.le_of_ble_eq_true rfl) (fun q3 H locs hP hD hS => ?_)
  have hP : va_P D vwCl [(h0, .inr (1, [.ref q0, .ref q1, .ref q2, .ref q3, .int 0, .int 0])), (q0, arW cy 0 3), (q1, arW cy 0 12), (q2, arW cy 0 12), (q3, arW cy 0 24)] H := hP
  have hD : va_D A [(h0, .inr (1, [.ref q0, .ref q1, .ref q2, .ref q3, .int 0, .int 0])), (q0, arW cy 0 3), (q1, arW cy 0 12), (q2, arW cy 0 12), (q3, arW cy 0 24)] := hD
  refine W.widen (k := 4) (n := 51) (Nat.le_of_ble_eq_true rfl) (Nat.le_of_ble_eq_true rfl) ?_
  refine W.widen (k := 4) (n := 51) (Nat.le_of_ble_eq_true rfl) (Nat.le_of_ble_eq_true rfl) ?_
  refine W.vret hx hb hr (fun t ht hW => ⟨⟨(q0, q1, q2, q3), rfl, trivial, ?_, ?_⟩, hS.F ht⟩) hS.2.2 (show decode cX1_init 35 = .ok (.return_, 1) by decide +kernel)
  · rw [ht]
    exact hP
  · show va_D (va_A [(h0, .inr (1, blX1))] s.heap.size) _
    rw [hAe]
    exact hD
def blX2 : List Value := [.null, .int 0, .int 0]
def wX2 (cy : Nat → ClassId) (h0 : Nat) (u : Nat) : va_W := [(h0, .inr (2, [.ref u, .int (-1), .int 0])), (u, arW cy 0 40)]
set_option maxHeartbeats 4000000 in
set_option maxRecDepth 100000 in
theorem bX2 (l : Launch) (D : va_G) (cy : Nat → ClassId) : bornM l D cy yX2_init cX2_init 1 { frames := 1, cells := 1, slots := 40, locals := 12 } 2 blX2 (wX2 cy) (fun _ => True) := by
  intro h0 sz
  refine Met.ofW (cc := cX2_init) (maxL := 1) (ret := none) (by decide +kernel) rfl ?_
  intro p e s m args below meth c s₁ B hml hv
  obtain ⟨rfl, ⟨hsz, hP, hK, hD0⟩, -⟩ := hv
  have hx := B.exec
  have hb := B.bytes
  have hr := B.returns
  have hts0 := atoms_spec (ws := Cond.code yX2_init cX2_init 1 none :: WS) B.pre
  have hts : ∀ w ∈ WS, w.before _ s = true := fun w hw => hts0 w (List.mem_cons_of_mem _ hw)
  have hown : s.vm.findClass RX2 = some m.cls := findClass_of_methodNamed B.named
  have hlocks := B.notSynchronized
  have hin : meth.name = "<init>" := (name_of_methodNamed B.named B.method).1
  subst hsz
  have hD := hD0.self (sz := s.heap.size)
  generalize hAe : va_A [(h0, .inr (2, blX2))] s.heap.size = A at hD ⊢
  have hA : ∀ q, s.heap.size ≤ q → A q := fun q h => by rw [← hAe]; exact Or.inr h
  have hS : va_S A s.heap s.heap [] := va_S.rf
  have F : CF p s m _ meth c cX2_init RX2 D cy := ⟨hx, hb, hts, hown, hin, hK⟩
  have hl := lv_entry ([.ref h0]) (n := 1) (Nat.le_of_ble_eq_true rfl)
  rw [lg_entry_eq]
  generalize (lg_sl ([.ref h0]) ++ List.replicate (1 - (lg_sl ([.ref h0])).length) Slot.unset).toArray = ls at hl ⊢
  have hl : lv_has ls 1 [(0, .ref h0)] := hl
  have hl0 : ls[0]? = some (.val (.ref h0)) := lv_at hl 0 rfl
  refine lv_aload_n hx hb (show decode cX2_init 0 = .ok (.aload_n 0, 1) by decide +kernel) rfl hl0 ?_
  refine W.objInit (idx := 3) hx hb hown (hts _ (inWS 199 (by decide +kernel) rfl)) (hts _ (inWS 77 (by decide +kernel) rfl)) (hts _ (inWS 78 (by decide +kernel) rfl)) rfl (by rw [hml]; exact hl.1) rfl (show decode cX2_init 1 = .ok (.invokespecial 3, 3) by decide +kernel) (Nat.le_of_ble_eq_true rfl) (Nat.le_of_ble_eq_true rfl) ?_
  refine W.eq (g2 := F0 m 4 ls []) rfl ?_
  refine mkA (pc := 4) (k := 0) (n := 40) (idx := 9) (lp := 2) (j := 0) (ty := .int) (atype := .int) (ip := .bipush 40) F CT2 hl0 hP hD hS hA (by decide +kernel) (by decide +kernel) (Or.inr (Or.inl ⟨_, rfl, rfl, by decide⟩)) (by decide +kernel) (by decide +kernel) (by decide) (inWS 200 (by decide +kernel) rfl) rfl rfl (by decide +kernel) (Nat.le_of_ble_eq_true rfl) (Or.inl ⟨rfl, rfl, rfl⟩) (inWS 145 (by decide +kernel) rfl) (by decide) (Nat.le_of_ble_eq_true rfl) (Nat.le_of_ble_eq_true rfl) (fun q0 H locs hP hD hS => ?_)
  have hP : va_P D vwCl [(h0, .inr (2, [.ref q0, .int 0, .int 0])), (q0, arW cy 0 40)] H := hP
  have hD : va_D A [(h0, .inr (2, [.ref q0, .int 0, .int 0])), (q0, arW cy 0 40)] := hD
  refine W.widen (k := 1) (n := 40) (Nat.le_of_ble_eq_true rfl) (Nat.le_of_ble_eq_true rfl) ?_
  refine mkI (pc := 12) (k := 1) (v := -1) (idx := 15) (lp := 1) (ty := .int) (ip := .iconst (-1)) F CT2 hl0 hP hD hS (by decide +kernel) (by decide +kernel) (Or.inl ⟨_, rfl, rfl, by decide⟩) (by decide +kernel) (by decide) (inWS 202 (by decide +kernel) rfl) rfl (by decide +kernel) (Nat.le_of_ble_eq_true rfl) (by decide +kernel) (by decide +kernel) (fun H locs hP hD hS => ?_)
  have hP : va_P D vwCl [(h0, .inr (2, [.ref q0, .int (-1), .int 0])), (q0, arW cy 0 40)] H := hP
  have hD : va_D A [(h0, .inr (2, [.ref q0, .int (-1), .int 0])), (q0, arW cy 0 40)] := hD
  refine W.widen (k := 1) (n := 40) (Nat.le_of_ble_eq_true rfl) (Nat.le_of_ble_eq_true rfl) ?_
  refine W.vret hx hb hr (fun t ht hW => ⟨⟨q0, rfl, trivial, ?_, ?_⟩, hS.F ht⟩) hS.2.2 (show decode cX2_init 17 = .ok (.return_, 1) by decide +kernel)
  · rw [ht]
    exact hP
  · show va_D (va_A [(h0, .inr (2, blX2))] s.heap.size) _
    rw [hAe]
    exact hD
def blX3 : List Value := [.null, .int 0, .int 0, .int 0, .int 0, .int 0]
def wX3 (cy : Nat → ClassId) (h0 : Nat) (u : Nat) : va_W := [(h0, .inr (3, [.ref u, .int 0, .int 0, .int 0, .int 0, .int 0])), (u, arW cy 1 160)]
set_option maxHeartbeats 4000000 in
set_option maxRecDepth 100000 in
theorem bX3 (l : Launch) (D : va_G) (cy : Nat → ClassId) : bornM l D cy yX3_init cX3_init 1 { frames := 1, cells := 1, slots := 160, locals := 12 } 3 blX3 (wX3 cy) (fun _ => True) := by
  intro h0 sz
  refine Met.ofW (cc := cX3_init) (maxL := 1) (ret := none) (by decide +kernel) rfl ?_
  intro p e s m args below meth c s₁ B hml hv
  obtain ⟨rfl, ⟨hsz, hP, hK, hD0⟩, -⟩ := hv
  have hx := B.exec
  have hb := B.bytes
  have hr := B.returns
  have hts0 := atoms_spec (ws := Cond.code yX3_init cX3_init 1 none :: WS) B.pre
  have hts : ∀ w ∈ WS, w.before _ s = true := fun w hw => hts0 w (List.mem_cons_of_mem _ hw)
  have hown : s.vm.findClass RX3 = some m.cls := findClass_of_methodNamed B.named
  have hlocks := B.notSynchronized
  have hin : meth.name = "<init>" := (name_of_methodNamed B.named B.method).1
  subst hsz
  have hD := hD0.self (sz := s.heap.size)
  generalize hAe : va_A [(h0, .inr (3, blX3))] s.heap.size = A at hD ⊢
  have hA : ∀ q, s.heap.size ≤ q → A q := fun q h => by rw [← hAe]; exact Or.inr h
  have hS : va_S A s.heap s.heap [] := va_S.rf
  have F : CF p s m _ meth c cX3_init RX3 D cy := ⟨hx, hb, hts, hown, hin, hK⟩
  have hl := lv_entry ([.ref h0]) (n := 1) (Nat.le_of_ble_eq_true rfl)
  rw [lg_entry_eq]
  generalize (lg_sl ([.ref h0]) ++ List.replicate (1 - (lg_sl ([.ref h0])).length) Slot.unset).toArray = ls at hl ⊢
  have hl : lv_has ls 1 [(0, .ref h0)] := hl
  have hl0 : ls[0]? = some (.val (.ref h0)) := lv_at hl 0 rfl
  refine lv_aload_n hx hb (show decode cX3_init 0 = .ok (.aload_n 0, 1) by decide +kernel) rfl hl0 ?_
  refine W.objInit (idx := 3) hx hb hown (hts _ (inWS 84 (by decide +kernel) rfl)) (hts _ (inWS 77 (by decide +kernel) rfl)) (hts _ (inWS 78 (by decide +kernel) rfl)) rfl (by rw [hml]; exact hl.1) rfl (show decode cX3_init 1 = .ok (.invokespecial 3, 3) by decide +kernel) (Nat.le_of_ble_eq_true rfl) (Nat.le_of_ble_eq_true rfl) ?_
  refine W.eq (g2 := F0 m 4 ls []) rfl ?_
  refine mkA (pc := 4) (k := 0) (n := 160) (idx := 9) (lp := 3) (j := 1) (ty := .byte) (atype := .byte) (ip := .sipush 160) F CT3 hl0 hP hD hS hA (by decide +kernel) (by decide +kernel) (Or.inr (Or.inr ⟨_, rfl, rfl, by decide⟩)) (by decide +kernel) (by decide +kernel) (by decide) (inWS 85 (by decide +kernel) rfl) rfl rfl (by decide +kernel) (Nat.le_of_ble_eq_true rfl) (Or.inr (Or.inl ⟨rfl, rfl, rfl⟩)) (inWS 108 (by decide +kernel) rfl) (by decide) (Nat.le_of_ble_eq_true rfl) (Nat.le_of_ble_eq_true rfl) (fun q0 H locs hP hD hS => ?_)
  have hP : va_P D vwCl [(h0, .inr (3, [.ref q0, .int 0, .int 0, .int 0, .int 0, .int 0])), (q0, arW cy 1 160)] H := hP
  have hD : va_D A [(h0, .inr (3, [.ref q0, .int 0, .int 0, .int 0, .int 0, .int 0])), (q0, arW cy 1 160)] := hD
  refine W.widen (k := 1) (n := 160) (Nat.le_of_ble_eq_true rfl) (Nat.le_of_ble_eq_true rfl) ?_
  refine W.widen (k := 1) (n := 160) (Nat.le_of_ble_eq_true rfl) (Nat.le_of_ble_eq_true rfl) ?_
  refine W.vret hx hb hr (fun t ht hW => ⟨⟨q0, rfl, trivial, ?_, ?_⟩, hS.F ht⟩) hS.2.2 (show decode cX3_init 13 = .ok (.return_, 1) by decide +kernel)
  · rw [ht]
    exact hP
  · show va_D (va_A [(h0, .inr (3, blX3))] s.heap.size) _
    rw [hAe]
    exact hD
def blX0 : List Value := [.null, .null, .null, .null, .int 0, .int 0, .null, .null, .null, .null, .null]
def wX0 (cy : Nat → ClassId) (h0 : Nat) (u : Nat × Nat × Nat × Nat × Nat × Nat × Nat × Nat × Nat) : va_W := [(h0, .inr (0, [.ref u.1, .ref u.2.1, .ref u.2.2.1, .ref u.2.2.2.1, .int 0, .int 0, .ref u.2.2.2.2.1, .ref u.2.2.2.2.2.1, .ref u.2.2.2.2.2.2.1, .ref u.2.2.2.2.2.2.2.1, .ref u.2.2.2.2.2.2.2.2])), (u.1, arW cy 0 729), (u.2.1, arW cy 0 729), (u.2.2.1, arW cy 0 12), (u.2.2.2.1, arW cy 0 3), (u.2.2.2.2.1, arW cy 0 729), (u.2.2.2.2.2.1, arW cy 0 729), (u.2.2.2.2.2.2.1, arW cy 0 729), (u.2.2.2.2.2.2.2.1, arW cy 0 729), (u.2.2.2.2.2.2.2.2, arW cy 0 729)]
set_option maxHeartbeats 4000000 in
set_option maxRecDepth 100000 in
theorem bX0 (l : Launch) (D : va_G) (cy : Nat → ClassId) : bornM l D cy yX0_init cX0_init 1 { frames := 1, cells := 9, slots := 5118, locals := 12 } 0 blX0 (wX0 cy) (fun _ => True) := by
  intro h0 sz
  refine Met.ofW (cc := cX0_init) (maxL := 1) (ret := none) (by decide +kernel) rfl ?_
  intro p e s m args below meth c s₁ B hml hv
  obtain ⟨rfl, ⟨hsz, hP, hK, hD0⟩, -⟩ := hv
  have hx := B.exec
  have hb := B.bytes
  have hr := B.returns
  have hts0 := atoms_spec (ws := Cond.code yX0_init cX0_init 1 none :: WS) B.pre
  have hts : ∀ w ∈ WS, w.before _ s = true := fun w hw => hts0 w (List.mem_cons_of_mem _ hw)
  have hown : s.vm.findClass RX0 = some m.cls := findClass_of_methodNamed B.named
  have hlocks := B.notSynchronized
  have hin : meth.name = "<init>" := (name_of_methodNamed B.named B.method).1
  subst hsz
  have hD := hD0.self (sz := s.heap.size)
  generalize hAe : va_A [(h0, .inr (0, blX0))] s.heap.size = A at hD ⊢
  have hA : ∀ q, s.heap.size ≤ q → A q := fun q h => by rw [← hAe]; exact Or.inr h
  have hS : va_S A s.heap s.heap [] := va_S.rf
  have F : CF p s m _ meth c cX0_init RX0 D cy := ⟨hx, hb, hts, hown, hin, hK⟩
  have hl := lv_entry ([.ref h0]) (n := 1) (Nat.le_of_ble_eq_true rfl)
  rw [lg_entry_eq]
  generalize (lg_sl ([.ref h0]) ++ List.replicate (1 - (lg_sl ([.ref h0])).length) Slot.unset).toArray = ls at hl ⊢
  have hl : lv_has ls 1 [(0, .ref h0)] := hl
  have hl0 : ls[0]? = some (.val (.ref h0)) := lv_at hl 0 rfl
  refine lv_aload_n hx hb (show decode cX0_init 0 = .ok (.aload_n 0, 1) by decide +kernel) rfl hl0 ?_
  refine W.objInit (idx := 5) hx hb hown (hts _ (inWS 151 (by decide +kernel) rfl)) (hts _ (inWS 77 (by decide +kernel) rfl)) (hts _ (inWS 78 (by decide +kernel) rfl)) rfl (by rw [hml]; exact hl.1) rfl (show decode cX0_init 1 = .ok (.invokespecial 5, 3) by decide +kernel) (Nat.le_of_ble_eq_true rfl) (Nat.le_of_ble_eq_true rfl) ?_
  refine W.eq (g2 := F0 m 4 ls []) rfl ?_
  refine mkA (pc := 4) (k := 0) (n := 729) (idx := 11) (lp := 3) (j := 0) (ty := .int) (atype := .int) (ip := .sipush 729) F CT0 hl0 hP hD hS hA (by decide +kernel) (by decide +kernel) (Or.inr (Or.inr ⟨_, rfl, rfl, by decide⟩)) (by decide +kernel) (by decide +kernel) (by decide) (inWS 152 (by decide +kernel) rfl) rfl rfl (by decide +kernel) (Nat.le_of_ble_eq_true rfl) (Or.inl ⟨rfl, rfl, rfl⟩) (inWS 145 (by decide +kernel) rfl) (by decide) (Nat.le_of_ble_eq_true rfl) (Nat.le_of_ble_eq_true rfl) (fun q0 H locs hP hD hS => ?_)
  have hP : va_P D vwCl [(h0, .inr (0, [.ref q0, .null, .null, .null, .int 0, .int 0, .null, .null, .null, .null, .null])), (q0, arW cy 0 729)] H := hP
  have hD : va_D A [(h0, .inr (0, [.ref q0, .null, .null, .null, .int 0, .int 0, .null, .null, .null, .null, .null])), (q0, arW cy 0 729)] := hD
  refine W.widen (k := 1) (n := 729) (Nat.le_of_ble_eq_true rfl) (Nat.le_of_ble_eq_true rfl) ?_
  refine mkA (pc := 13) (k := 1) (n := 729) (idx := 15) (lp := 3) (j := 0) (ty := .int) (atype := .int) (ip := .sipush 729) F CT0 hl0 hP hD hS hA (by decide +kernel) (by decide +kernel) (Or.inr (Or.inr ⟨_, rfl, rfl, by decide⟩)) (by decide +kernel) (by decide +kernel) (by decide) (inWS 154 (by decide +kernel) rfl) rfl rfl (by decide +kernel) (Nat.le_of_ble_eq_true rfl) (Or.inl ⟨rfl, rfl, rfl⟩) (inWS 145 (by decide +kernel) rfl) (by decide) (Nat.le_of_ble_eq_true rfl) (Nat.le_of_ble_eq_true rfl) (fun q1 H locs hP hD hS => ?_)
  have hP : va_P D vwCl [(h0, .inr (0, [.ref q0, .ref q1, .null, .null, .int 0, .int 0, .null, .null, .null, .null, .null])), (q0, arW cy 0 729), (q1, arW cy 0 729)] H := hP
  have hD : va_D A [(h0, .inr (0, [.ref q0, .ref q1, .null, .null, .int 0, .int 0, .null, .null, .null, .null, .null])), (q0, arW cy 0 729), (q1, arW cy 0 729)] := hD
  refine W.widen (k := 2) (n := 1458) (Nat.le_of_ble_eq_true rfl) (Nat.le_of_ble_eq_true rfl) ?_
  refine mkA (pc := 22) (k := 2) (n := 12) (idx := 18) (lp := 2) (j := 0) (ty := .int) (atype := .int) (ip := .bipush 12) F CT0 hl0 hP hD hS hA (by decide +kernel) (by decide +kernel) (Or.inr (Or.inl ⟨_, rfl, rfl, by decide⟩)) (by decide +kernel) (by decide +kernel) (by decide) (inWS 156 (by decide +kernel) rfl) rfl rfl (by decide +kernel) (Nat.le_of_ble_eq_true rfl) (Or.inl ⟨rfl, rfl, rfl⟩) (inWS 145 (by decide +kernel) rfl) (by decide) (Nat.le_of_ble_eq_true rfl) (Nat.le_of_ble_eq_true rfl) (fun q2 H locs hP hD hS => ?_)
  have hP : va_P D vwCl [(h0, .inr (0, [.ref q0, .ref q1, .ref q2, .null, .int 0, .int 0, .null, .null, .null, .null, .null])), (q0, arW cy 0 729), (q1, arW cy 0 729), (q2, arW cy 0 12)] H := hP
  have hD : va_D A [(h0, .inr (0, [.ref q0, .ref q1, .ref q2, .null, .int 0, .int 0, .null, .null, .null, .null, .null])), (q0, arW cy 0 729), (q1, arW cy 0 729), (q2, arW cy 0 12)] := hD
  refine W.widen (k := 3) (n := 1470) (Nat.le_of_ble_eq_true rfl) (Nat.le_of_ble_eq_true rfl) ?_
  refine mkA (pc := 30) (k := 3) (n := 3) (idx := 21) (lp := 1) (j := 0) (ty := .int) (atype := .int) (ip := .iconst 3) F CT0 hl0 hP hD hS hA (by decide +kernel) (by decide +kernel) (Or.inl ⟨_, rfl, rfl, by decide⟩) (by decide +kernel) (by decide +kernel) (by decide) (inWS 158 (by decide +kernel) rfl) rfl rfl (by decide +kernel) (Nat.le_of_ble_eq_true rfl) (Or.inl ⟨rfl, rfl, rfl⟩) (inWS 145 (by decide +kernel) rfl) (by decide) (Nat.le_of_ble_eq_true rfl) (Nat.le_of_ble_eq_true rfl) (fun q3 H locs hP hD hS => ?_)
  have hP : va_P D vwCl [(h0, .inr (0, [.ref q0, .ref q1, .ref q2, .ref q3, .int 0, .int 0, .null, .null, .null, .null, .null])), (q0, arW cy 0 729), (q1, arW cy 0 729), (q2, arW cy 0 12), (q3, arW cy 0 3)] H := hP
  have hD : va_D A [(h0, .inr (0, [.ref q0, .ref q1, .ref q2, .ref q3, .int 0, .int 0, .null, .null, .null, .null, .null])), (q0, arW cy 0 729), (q1, arW cy 0 729), (q2, arW cy 0 12), (q3, arW cy 0 3)] := hD
  refine W.widen (k := 4) (n := 1473) (Nat.le_of_ble_eq_true rfl) (Nat.le_of_ble_eq_true rfl) ?_
  refine mkA (pc := 37) (k := 6) (n := 729) (idx := 24) (lp := 3) (j := 0) (ty := .int) (atype := .int) (ip := .sipush 729) F CT0 hl0 hP hD hS hA (by decide +kernel) (by decide +kernel) (Or.inr (Or.inr ⟨_, rfl, rfl, by decide⟩)) (by decide +kernel) (by decide +kernel) (by decide) (inWS 164 (by decide +kernel) rfl) rfl rfl (by decide +kernel) (Nat.le_of_ble_eq_true rfl) (Or.inl ⟨rfl, rfl, rfl⟩) (inWS 145 (by decide +kernel) rfl) (by decide) (Nat.le_of_ble_eq_true rfl) (Nat.le_of_ble_eq_true rfl) (fun q6 H locs hP hD hS => ?_)
  have hP : va_P D vwCl [(h0, .inr (0, [.ref q0, .ref q1, .ref q2, .ref q3, .int 0, .int 0, .ref q6, .null, .null, .null, .null])), (q0, arW cy 0 729), (q1, arW cy 0 729), (q2, arW cy 0 12), (q3, arW cy 0 3), (q6, arW cy 0 729)] H := hP
  have hD : va_D A [(h0, .inr (0, [.ref q0, .ref q1, .ref q2, .ref q3, .int 0, .int 0, .ref q6, .null, .null, .null, .null])), (q0, arW cy 0 729), (q1, arW cy 0 729), (q2, arW cy 0 12), (q3, arW cy 0 3), (q6, arW cy 0 729)] := hD
  refine W.widen (k := 5) (n := 2202) (Nat.le_of_ble_eq_true rfl) (Nat.le_of_ble_eq_true rfl) ?_
  refine mkA (pc := 46) (k := 7) (n := 729) (idx := 27) (lp := 3) (j := 0) (ty := .int) (atype := .int) (ip := .sipush 729) F CT0 hl0 hP hD hS hA (by decide +kernel) (by decide +kernel) (Or.inr (Or.inr ⟨_, rfl, rfl, by decide⟩)) (by decide +kernel) (by decide +kernel) (by decide) (inWS 165 (by decide +kernel) rfl) rfl rfl (by decide +kernel) (Nat.le_of_ble_eq_true rfl) (Or.inl ⟨rfl, rfl, rfl⟩) (inWS 145 (by decide +kernel) rfl) (by decide) (Nat.le_of_ble_eq_true rfl) (Nat.le_of_ble_eq_true rfl) (fun q7 H locs hP hD hS => ?_)
  have hP : va_P D vwCl [(h0, .inr (0, [.ref q0, .ref q1, .ref q2, .ref q3, .int 0, .int 0, .ref q6, .ref q7, .null, .null, .null])), (q0, arW cy 0 729), (q1, arW cy 0 729), (q2, arW cy 0 12), (q3, arW cy 0 3), (q6, arW cy 0 729), (q7, arW cy 0 729)] H := hP
  have hD : va_D A [(h0, .inr (0, [.ref q0, .ref q1, .ref q2, .ref q3, .int 0, .int 0, .ref q6, .ref q7, .null, .null, .null])), (q0, arW cy 0 729), (q1, arW cy 0 729), (q2, arW cy 0 12), (q3, arW cy 0 3), (q6, arW cy 0 729), (q7, arW cy 0 729)] := hD
  refine W.widen (k := 6) (n := 2931) (Nat.le_of_ble_eq_true rfl) (Nat.le_of_ble_eq_true rfl) ?_
  refine mkA (pc := 55) (k := 8) (n := 729) (idx := 30) (lp := 3) (j := 0) (ty := .int) (atype := .int) (ip := .sipush 729) F CT0 hl0 hP hD hS hA (by decide +kernel) (by decide +kernel) (Or.inr (Or.inr ⟨_, rfl, rfl, by decide⟩)) (by decide +kernel) (by decide +kernel) (by decide) (inWS 166 (by decide +kernel) rfl) rfl rfl (by decide +kernel) (Nat.le_of_ble_eq_true rfl) (Or.inl ⟨rfl, rfl, rfl⟩) (inWS 145 (by decide +kernel) rfl) (by decide) (Nat.le_of_ble_eq_true rfl) (Nat.le_of_ble_eq_true rfl) (fun q8 H locs hP hD hS => ?_)
  have hP : va_P D vwCl [(h0, .inr (0, [.ref q0, .ref q1, .ref q2, .ref q3, .int 0, .int 0, .ref q6, .ref q7, .ref q8, .null, .null])), (q0, arW cy 0 729), (q1, arW cy 0 729), (q2, arW cy 0 12), (q3, arW cy 0 3), (q6, arW cy 0 729), (q7, arW cy 0 729), (q8, arW cy 0 729)] H := hP
  have hD : va_D A [(h0, .inr (0, [.ref q0, .ref q1, .ref q2, .ref q3, .int 0, .int 0, .ref q6, .ref q7, .ref q8, .null, .null])), (q0, arW cy 0 729), (q1, arW cy 0 729), (q2, arW cy 0 12), (q3, arW cy 0 3), (q6, arW cy 0 729), (q7, arW cy 0 729), (q8, arW cy 0 729)] := hD
  refine W.widen (k := 7) (n := 3660) (Nat.le_of_ble_eq_true rfl) (Nat.le_of_ble_eq_true rfl) ?_
  refine mkA (pc := 64) (k := 9) (n := 729) (idx := 33) (lp := 3) (j := 0) (ty := .int) (atype := .int) (ip := .sipush 729) F CT0 hl0 hP hD hS hA (by decide +kernel) (by decide +kernel) (Or.inr (Or.inr ⟨_, rfl, rfl, by decide⟩)) (by decide +kernel) (by decide +kernel) (by decide) (inWS 167 (by decide +kernel) rfl) rfl rfl (by decide +kernel) (Nat.le_of_ble_eq_true rfl) (Or.inl ⟨rfl, rfl, rfl⟩) (inWS 145 (by decide +kernel) rfl) (by decide) (Nat.le_of_ble_eq_true rfl) (Nat.le_of_ble_eq_true rfl) (fun q9 H locs hP hD hS => ?_)
  have hP : va_P D vwCl [(h0, .inr (0, [.ref q0, .ref q1, .ref q2, .ref q3, .int 0, .int 0, .ref q6, .ref q7, .ref q8, .ref q9, .null])), (q0, arW cy 0 729), (q1, arW cy 0 729), (q2, arW cy 0 12), (q3, arW cy 0 3), (q6, arW cy 0 729), (q7, arW cy 0 729), (q8, arW cy 0 729), (q9, arW cy 0 729)] H := hP
  have hD : va_D A [(h0, .inr (0, [.ref q0, .ref q1, .ref q2, .ref q3, .int 0, .int 0, .ref q6, .ref q7, .ref q8, .ref q9, .null])), (q0, arW cy 0 729), (q1, arW cy 0 729), (q2, arW cy 0 12), (q3, arW cy 0 3), (q6, arW cy 0 729), (q7, arW cy 0 729), (q8, arW cy 0 729), (q9, arW cy 0 729)] := hD
  refine W.widen (k := 8) (n := 4389) (Nat.le_of_ble_eq_true rfl) (Nat.le_of_ble_eq_true rfl) ?_
  refine mkA (pc := 73) (k := 10) (n := 729) (idx := 36) (lp := 3) (j := 0) (ty := .int) (atype := .int) (ip := .sipush 729) F CT0 hl0 hP hD hS hA (by decide +kernel) (by decide +kernel) (Or.inr (Or.inr ⟨_, rfl, rfl, by decide⟩)) (by decide +kernel) (by decide +kernel) (by decide) (inWS 168 (by decide +kernel) rfl) rfl rfl (by decide +kernel) (Nat.le_of_ble_eq_true rfl) (Or.inl ⟨rfl, rfl, rfl⟩) (inWS 145 (by decide +kernel) rfl) (by decide) (Nat.le_of_ble_eq_true rfl) (Nat.le_of_ble_eq_true rfl) (fun q10 H locs hP hD hS => ?_)
  have hP : va_P D vwCl [(h0, .inr (0, [.ref q0, .ref q1, .ref q2, .ref q3, .int 0, .int 0, .ref q6, .ref q7, .ref q8, .ref q9, .ref q10])), (q0, arW cy 0 729), (q1, arW cy 0 729), (q2, arW cy 0 12), (q3, arW cy 0 3), (q6, arW cy 0 729), (q7, arW cy 0 729), (q8, arW cy 0 729), (q9, arW cy 0 729), (q10, arW cy 0 729)] H := hP
  have hD : va_D A [(h0, .inr (0, [.ref q0, .ref q1, .ref q2, .ref q3, .int 0, .int 0, .ref q6, .ref q7, .ref q8, .ref q9, .ref q10])), (q0, arW cy 0 729), (q1, arW cy 0 729), (q2, arW cy 0 12), (q3, arW cy 0 3), (q6, arW cy 0 729), (q7, arW cy 0 729), (q8, arW cy 0 729), (q9, arW cy 0 729), (q10, arW cy 0 729)] := hD
  refine W.widen (k := 9) (n := 5118) (Nat.le_of_ble_eq_true rfl) (Nat.le_of_ble_eq_true rfl) ?_
  refine W.widen (k := 9) (n := 5118) (Nat.le_of_ble_eq_true rfl) (Nat.le_of_ble_eq_true rfl) ?_
  refine W.vret hx hb hr (fun t ht hW => ⟨⟨(q0, q1, q2, q3, q6, q7, q8, q9, q10), rfl, trivial, ?_, ?_⟩, hS.F ht⟩) hS.2.2 (show decode cX0_init 82 = .ok (.return_, 1) by decide +kernel)
  · rw [ht]
    exact hP
  · show va_D (va_A [(h0, .inr (0, blX0))] s.heap.size) _
    rw [hAe]
    exact hD
