/-! what the start gives: classes, array kinds, statics, texts -/
theorem tblWS {args : Array Value} {s : State} (hts : ∀ w ∈ lw_tbl, w.before args s = true) : ∀ w ∈ WS, w.before args s = true := fun w hw => hts w (List.mem_filter.mp hw).1
theorem kind_of {args : Array Value} {s : State} {ty : FieldType} (h : (Cond.arrayClass ty).before args s = true) : ∃ cA, ArrOfT s cA ty ∧ s.vm.findClass ("[" ++ ty.toString) = some cA := by
  obtain ⟨cA, kA, comp, h1, h2, h3⟩ := Cond.arrayClass_spec h
  exact ⟨cA, fun N z => ⟨(fun k h => by cases h), kA, h2, comp, h3⟩, h1⟩
theorem kindO_of {args : Array Value} {s : State} {C : String} (h : (Cond.arrayOver (.object C)).before args s = true) : ∃ cA, ArrOfT s cA (.object C) ∧ va_RA s cA (.object C) := by
  obtain ⟨comp, cA, kA, h1, -, h3, h4, h5⟩ := Cond.arrayOver_spec h
  exact ⟨cA, fun N z => ⟨(fun k h => by cases h), kA, h3, comp, h4⟩, kA, comp, h3, h4, h1, h5⟩
theorem k_start {args : Array Value} {s : State} (hts : ∀ w ∈ lw_tbl, w.before args s = true) : ∃ (D : va_G) (cy : Nat → ClassId), va_K D vwCl (tyl cy) s := by
  have hw := tblWS hts
  obtain ⟨c0, i0, k0⟩ := u_known (C := RX0) (T := TX0) (N := 11) (n := 11) hw inX0 (hw _ inX0_n)
  obtain ⟨c1, i1, k1⟩ := u_known (C := RX1) (T := TX1) (N := 6) (n := 6) hw inX1 (hw _ inX1_n)
  obtain ⟨c2, i2, k2⟩ := u_known (C := RX2) (T := TX2) (N := 3) (n := 3) hw inX2 (hw _ inX2_n)
  obtain ⟨c3, i3, k3⟩ := u_known (C := RX3) (T := TX3) (N := 6) (n := 6) hw inX3 (hw _ inX3_n)
  obtain ⟨c4, i4, k4⟩ := u_known (C := RX4) (T := TX4) (N := 9) (n := 9) hw inX4 (hw _ inX4_n)
  obtain ⟨c5, i5, k5⟩ := u_known (C := RX5) (T := TX5) (N := 28) (n := 28) hw inX5 (hw _ inX5_n)
  obtain ⟨a0, r0, n0⟩ := kind_of (hts (.arrayClass .int) (List.mem_of_getElem? (i := 145) (by decide +kernel)))
  obtain ⟨a1, r1, n1⟩ := kind_of (hts (.arrayClass .byte) (List.mem_of_getElem? (i := 108) (by decide +kernel)))
  obtain ⟨a2, r2, n2⟩ := kind_of (hts (.arrayClass .boolean) (List.mem_of_getElem? (i := 213) (by decide +kernel)))
  obtain ⟨a3, r3, n3⟩ := kindO_of (C := "FallingCalls$Program") (hts (.arrayOver (.object "FallingCalls$Program")) (List.mem_of_getElem? (i := 192) (by decide +kernel)))
  obtain ⟨a4, r4, n4⟩ := kindO_of (C := "FallingCalls$Sheet") (hts (.arrayOver (.object "FallingCalls$Sheet")) (List.mem_of_getElem? (i := 194) (by decide +kernel)))
  refine ⟨(fun k => match k with
    | 0 => c0
    | 1 => c1
    | 2 => c2
    | 3 => c3
    | 4 => c4
    | _ => c5, fun k => match k with
    | 0 => i0
    | 1 => i1
    | 2 => i2
    | 3 => i3
    | 4 => i4
    | _ => i5), fun k => match k with
    | 0 => a0
    | 1 => a1
    | 2 => a2
    | 3 => a3
    | _ => a4, fun k q hq => ?_, fun k q hq => ?_⟩
  · match k, hq with
    | 0, hq => cases hq; exact k0
    | 1, hq => cases hq; exact k1
    | 2, hq => cases hq; exact k2
    | 3, hq => cases hq; exact k3
    | 4, hq => cases hq; exact k4
    | 5, hq => cases hq; exact k5
    | k + 6, hq => simp [vwCl] at hq
  · match k, hq with
    | 0, hq => cases hq; exact ⟨r0, n0⟩
    | 1, hq => cases hq; exact ⟨r1, n1⟩
    | 2, hq => cases hq; exact ⟨r2, n2⟩
    | 3, hq => cases hq; exact ⟨r3, n3⟩
    | 4, hq => cases hq; exact ⟨r4, n4⟩
    | k + 5, hq => simp [tyl] at hq
theorem nest_of {w : Cond} (h : w ∈ nestW) : w ∈ lw_tbl ∧ ∃ a i x c, w = .methodLinkNest a i x c := by
  obtain ⟨h1, h2⟩ := List.mem_filter.mp h
  refine ⟨h1, ?_⟩
  split at h2
  · exact ⟨_, _, _, _, rfl⟩
  · cases h2
theorem ex_start {args : Array Value} {s : State} (hts : ∀ w ∈ lw_tbl, w.before args s = true) : exU s := by
  refine ⟨fun w hw => ?_, va_AO.of (hts (.arrayOver (.object "FallingCalls$Program")) (List.mem_of_getElem? (i := 192) (by decide +kernel))), va_AO.of (hts (.arrayOver (.object "FallingCalls$Sheet")) (List.mem_of_getElem? (i := 194) (by decide +kernel)))⟩
  obtain ⟨h1, a, i, x, c, rfl⟩ := nest_of hw
  exact va_Nw.of rfl (hts _ h1)
theorem ex_warm {s U : State} (hW : s.WarmedH U.vm) (h : exU s) : exU U := by
  refine ⟨fun w hw => ?_, h.2.1.moved hW.alike, h.2.2.moved hW.alike⟩
  obtain ⟨h1, a, i, x, c, rfl⟩ := nest_of hw
  exact va_Nw.warmM hW (h.1 _ hw)
theorem gX_moved {ad : Ky → Nat} {A : Nat → Prop} {U U' : State} (hW : U.WarmedH U'.vm) (hq : ∀ q : Nat, q < U.heap.size → ¬ A q → U'.heap[q]? = U.heap[q]?) (h : gX ad A U) : gX ad A U' := by
  obtain ⟨h1, ⟨pw, h2, h3⟩, ⟨adV, h4⟩, h5, h6, h7⟩ := h
  refine ⟨fun w hw => ?_, ⟨pw, (va_Z.moved hW.alike h2).kept hq, (va_T.moved hW.alike h3).kept hq⟩, ⟨adV, (vk_S.moved hW.alike h4).kept hq⟩, fun i hi => vk_R.warm hW (h5 i hi), (va_Z.moved hW.alike h6).kept hq, (va_Zq.moved hW.alike h7).kept hq⟩
  obtain ⟨_, a, i, x, c, rfl⟩ := nest_of hw
  exact va_Nw.warmM hW (h1 _ hw)
theorem gX_start {args : Array Value} {s : State} (hts : ∀ w ∈ lw_tbl, w.before args s = true) (hgv : (Jvm.Cond.and given_1 narrow_1).before args s = true) : ∃ sa : Nat → Nat, ∀ ad : Ky → Nat, (∀ i, ad (9, i, 0) = sa i) → gX ad (fun q => s.heap.size ≤ q) s := by
  have hs := flat_of_before _ hgv
  have hA : ∀ a : Nat, a < s.heap.size → ¬ (fun q => s.heap.size ≤ q) a := fun a h => Nat.not_le.mpr h
  obtain ⟨sa, sv, hS, hev⟩ := vk_Sof (args := args) (s := s) (N := 4) (tm := fun i => Term.string RX3 (strI i)) (len := [3, 4, 1, 1]) (byt := strB) (A := fun q => s.heap.size ≤ q)
    (fun i hi => by rcases (show i = 0 ∨ i = 1 ∨ i = 2 ∨ i = 3 by omega) with rfl | rfl | rfl | rfl <;> decide)
    (fun i hi => by rcases (show i = 0 ∨ i = 1 ∨ i = 2 ∨ i = 3 by omega) with rfl | rfl | rfl | rfl <;> exact hs _ (by decide +kernel))
    (fun i hi => by rcases (show i = 0 ∨ i = 1 ∨ i = 2 ∨ i = 3 by omega) with rfl | rfl | rfl | rfl <;> exact hs _ (by decide +kernel))
    (fun i hi => by rcases (show i = 0 ∨ i = 1 ∨ i = 2 ∨ i = 3 by omega) with rfl | rfl | rfl | rfl <;> exact hs _ (by decide +kernel))
    (fun i hi => by rcases (show i = 0 ∨ i = 1 ∨ i = 2 ∨ i = 3 by omega) with rfl | rfl | rfl | rfl <;> exact hs _ (by decide +kernel))
    (fun i hi j hj => by
      rcases (show i = 0 ∨ i = 1 ∨ i = 2 ∨ i = 3 by omega) with rfl | rfl | rfl | rfl
      · have hj : j < 3 := hj
        rcases (show j = 0 ∨ j = 1 ∨ j = 2 by omega) with rfl | rfl | rfl <;> exact hs _ (by decide +kernel)
      · have hj : j < 4 := hj
        rcases (show j = 0 ∨ j = 1 ∨ j = 2 ∨ j = 3 by omega) with rfl | rfl | rfl | rfl <;> exact hs _ (by decide +kernel)
      · have hj : j < 1 := hj
        rcases (show j = 0 by omega) with rfl
        exact hs _ (by decide +kernel)
      · have hj : j < 1 := hj
        rcases (show j = 0 by omega) with rfl
        exact hs _ (by decide +kernel))
    (fun i j hi hj hij => by
      rcases (show i = 0 ∨ i = 1 ∨ i = 2 ∨ i = 3 by omega) with rfl | rfl | rfl | rfl <;> rcases (show j = 0 ∨ j = 1 ∨ j = 2 ∨ j = 3 by omega) with rfl | rfl | rfl | rfl <;> first | exact absurd rfl hij | exact Or.inl (hs _ (by decide +kernel)) | exact Or.inr (hs _ (by decide +kernel)))
    hA
  obtain ⟨pw, hpw, hT⟩ := va_Tof (args := args) (s := s) (tm := .static "FallingCalls$Graphs" "POWERS" "[I") (ty := .int) (N := 16) (f := fun j => .int (powT.getD j 0)) (A := fun q => s.heap.size ≤ q) (by decide) (hs _ (by decide +kernel)) (va_eqt (hs _ (by decide +kernel))) (fun j hj => va_eqt (by
    rcases (show j = 0 ∨ j = 1 ∨ j = 2 ∨ j = 3 ∨ j = 4 ∨ j = 5 ∨ j = 6 ∨ j = 7 ∨ j = 8 ∨ j = 9 ∨ j = 10 ∨ j = 11 ∨ j = 12 ∨ j = 13 ∨ j = 14 ∨ j = 15 by omega) with rfl | rfl | rfl | rfl | rfl | rfl | rfl | rfl | rfl | rfl | rfl | rfl | rfl | rfl | rfl | rfl <;> exact hs _ (by decide +kernel))) hA
  have at_ : ∀ (i : Nat) (w : Cond), lw_tbl[i]? = some w → w.before args s = true := fun i w h => hts w (List.mem_of_getElem? h)
  refine ⟨sa, fun ad had => ⟨(ex_start hts).1, ⟨pw, va_Zof (at_ 439 _ (by decide +kernel)) (at_ 61 _ (by decide +kernel)) hpw hA, hT⟩, ⟨sv, ?_⟩, fun i hi => ?_, va_Zof (at_ 287 _ (by decide +kernel)) (at_ 64 _ (by decide +kernel)) (va_eqi (hs _ (by decide +kernel))) hA, va_Zqof (at_ 303 _ (by decide +kernel)) (at_ 66 _ (by decide +kernel)) (hs _ (by decide +kernel)) hA⟩⟩
  · rw [show (fun i => ad (9, i, 0)) = sa from funext had]
    exact hS
  · rw [had i]
    refine vk_R.of (A := args) ?_ (hev i hi)
    rcases (show i = 0 ∨ i = 1 ∨ i = 2 ∨ i = 3 by omega) with rfl | rfl | rfl | rfl
    · exact at_ 273 _ (by decide +kernel)
    · exact at_ 350 _ (by decide +kernel)
    · exact at_ 374 _ (by decide +kernel)
    · exact at_ 375 _ (by decide +kernel)
