/-! objects that hold objects -/
section Born2
variable {p : Program} {l : Launch} {e : Env} {R : Room} {s : State} {m : MethodId} {args : Array Value} {below : List Frame} {meth : Method} {c : Code} {H H0 : Heap} {locs : List Loc} {cells slots : Nat} {Q : State → Prop} {cc : ByteArray} {ls : Array Slot} {D : va_G} {cy : Nat → ClassId} {A : Nat → Prop}
theorem good_ws {y : MethodName} {cc2 : ByteArray} {maxL : Nat} {ret : Option FieldType} (h : Cond.code y cc2 maxL ret ∈ WS) : GoodIn WS (Cond.code y cc2 maxL ret :: WS) := fun w hw => by
  rcases List.mem_cons.mp hw with rfl | h2
  · exact ⟨h, ws_good _ h⟩
  · exact ⟨h2, ws_good _ h2⟩
theorem bornP_blind {D : va_G} {cy : Nat → ClassId} {t : Nat} {bl : List Value} {h0 sz : Nat} : FrameBlind (va_Pc [.ref h0] (fun U => bornP D cy t bl h0 sz U ∧ True)) := fun a U g mk q => ⟨q.1, ⟨q.2.1.1, q.2.1.2.1, va_K.moved (u := U) (U := U.calling g mk a) (Vm.Alike.refl U.vm) q.2.1.2.2.1, q.2.1.2.2.2⟩, trivial⟩
theorem lastAt {ws : va_W} {x : Nat × va_E} : (ws ++ [x])[ws.length]? = some x := by
  rw [List.getElem?_append_right (Nat.le_refl _), Nat.sub_self]
  rfl
theorem oneP {D : va_G} {cl : List vw_C} {ws : va_W} {x : Nat × va_E} {H : Heap} (h : va_P D cl (ws ++ [x]) H) : va_P D cl [x] H := fun k q hk => by
  have hz : k < 1 := (List.getElem?_eq_some_iff.mp hk).1
  rw [show k = 0 by omega] at hk
  cases hk
  exact h _ _ lastAt
theorem oneD {x : Nat × va_E} : va_D (fun _ => True) [x] := ⟨fun i j p q hi hj _ => by
  have h1 : i < 1 := (List.getElem?_eq_some_iff.mp hi).1
  have h2 : j < 1 := (List.getElem?_eq_some_iff.mp hj).1
  omega, fun _ _ _ => trivial⟩
theorem oneF {A : Nat → Prop} {ws : va_W} {x : Nat × va_E} {H0 H : Heap} {locs : List Loc} (hD : va_D A (ws ++ [x])) (hS : va_S A H0 H locs) (hA : ∀ q, H0.size ≤ q → A q) : ∀ q, va_A [x] H.size q → A q := by
  intro q h
  rcases h with ⟨k, e, h⟩ | h
  · have hz : k < 1 := (List.getElem?_eq_some_iff.mp h).1
    rw [show k = 0 by omega] at h
    have hx : x = (q, e) := Option.some.inj h
    have := hD.2 _ _ (lastAt (ws := ws) (x := x))
    rw [hx] at this
    exact this
  · exact hA q (Nat.le_trans hS.1 h)
/-- a nest mate's object is made -/
theorem newO {S : Type} {w : Nat → S → va_W} {bl : List Value} {t N i0 i1 pc nL maxL : Nat} {own C host : String} {T : u_T} {y : MethodName} {cc2 : ByteArray} {rm : Room} {ws : va_W} {rest : List Value} (F : CF p s m args meth c cc own D cy) (hml : c.maxLocals = nL) (hsz : ls.size = nL) (hC : CT t N C T) (hM : bornM l D cy y cc2 maxL rm t bl w (fun _ => True))
    (hP : va_P D vwCl ws H) (hD : va_D A ws) (hS : va_S A H0 H locs) (hA : ∀ q, H0.size ≤ q → A q) (hcl : Cond.classLink own i0 C ∈ WS) (hinst : Cond.instantiable C N ∈ WS) (hini : Cond.initialized C ∈ WS) (ty : Nat → FieldType) (hty : ∀ k, k < N → parseFieldDescriptor (T k).2.2.1 = some (ty k)) (hfs : ∀ j, j < N → defaultValue (ty j) = vp_V bl j)
    (nest : va_Nw (.methodLinkNest own i1 y host) s) (hyi : Cond.instanceMethod y ∈ WS) (hyn : y.name = "<init>") (hk : LnkOK y cc2 maxL none 0) (room : rm.frames + 1 ≤ R.frames ∧ 8 + (maxL + 11) + rm.locals ≤ R.locals) (hcells : cells + 1 + rm.cells ≤ R.cells) (hslots : slots + N + rm.slots ≤ R.slots) (hcat : (rest.map fun v => v.category).sum ≤ 7)
    (d0 : decode cc pc = .ok (.new i0, 3)) (d1 : decode cc (pc + 3) = .ok (.dup, 1)) (d2 : decode cc (pc + 3 + 1) = .ok (.invokespecial i1, 3))
    (kk : ∀ (q : Nat) (u : S) (H1 : Heap) (locs1 : List Loc), va_P D vwCl (ws ++ w q u) H1 → va_D A (ws ++ w q u) → va_S A H0 H1 locs1 → W p l e R s m args below meth c H1 locs1 (cells + 1 + rm.cells) (slots + N + rm.slots) Q (F0 m (pc + 3 + 1 + 3) ls (.ref q :: rest))) :
    W p l e R s m args below meth c H locs cells slots Q (F0 m pc ls rest) := by
  obtain ⟨hx, hb, hts, hown, hnm, hK⟩ := F
  obtain ⟨hc, hin, -, hnd⟩ := hC
  refine va_new (ci := t) (fs := bl) (C := C) (T := T) (N := N) hx hb hts hin ty hty hown (hts _ hcl) (hts _ hinst) (hts _ hini) hK hP hD hS hA hc hfs (by omega) (by omega) d0 (fun q H1 hP1 hD1 hS1 => ?_)
  refine lv_dup hx hb d1 rfl ?_
  have hF := oneF hD1 hS1 hA
  refine va_callv (va_runIN (As := []) (rest := .ref q :: rest) (host := host) ⟨hx, hb, hml, hown, hts⟩ (hM q H1.size) ⟨va_cnB (Ts := WS) 0 hts (good_ws hk.1) rfl rfl rfl nest (hts _ hk.2.1) ⟨hk.2.2.1.1, hk.2.2.1.2, hk.2.2.2⟩ room, hyn, hts _ hyi⟩ ⟨bornP_blind, fun U hU hW => ⟨rfl, ⟨by rw [hU], by rw [hU]; exact oneP hP1, va_K.moved hW.alike hK, oneD⟩, trivial⟩⟩ rfl rfl hsz rfl (lv_room (by show 1 + (rest.map fun v => v.category).sum ≤ 8; omega)) d2 ⟨hcells, hslots⟩) hS1 (fun x _ h => hF x h) hF (fun u t2 H2 locs2 ht hvm _ hB hz1 hk1 hS2 => ?_)
  obtain ⟨hPu, hDu⟩ := hB
  rw [ht] at hPu
  obtain ⟨hP2, hD2⟩ := joinL hP1 hD1 hk1 hF hPu hDu
  exact kk q u H2 locs2 hP2 hD2 hS2
/-- a nest mate's object is made, for a field -/
theorem mkO {S : Type} {w : Nat → S → va_W} {bl : List Value} {h0 ci N0 k idx t N i0 i1 pc nL maxL : Nat} {own C host : String} {T0 T : u_T} {y : MethodName} {cc2 : ByteArray} {rm : Room} {fs : List Value} {r : va_W} (F : CF p s m args meth c cc own D cy) (hC0 : CT ci N0 own T0) (hl : ls[0]? = some (.val (.ref h0))) (hml : c.maxLocals = nL) (hsz : ls.size = nL) (hC : CT t N C T) (hM : bornM l D cy y cc2 maxL rm t bl w (fun _ => True))
    (hP : va_P D vwCl ((h0, .inr (ci, fs)) :: r) H) (hD : va_D A ((h0, .inr (ci, fs)) :: r)) (hS : va_S A H0 H locs) (hA : ∀ q, H0.size ≤ q → A q) (hcl : Cond.classLink own i0 C ∈ WS) (hinst : Cond.instantiable C N ∈ WS) (hini : Cond.initialized C ∈ WS) (ty : Nat → FieldType) (hty : ∀ k, k < N → parseFieldDescriptor (T k).2.2.1 = some (ty k)) (hfs : ∀ j, j < N → defaultValue (ty j) = vp_V bl j)
    (nest : va_Nw (.methodLinkNest own i1 y host) s) (hyi : Cond.instanceMethod y ∈ WS) (hyn : y.name = "<init>") (hk : LnkOK y cc2 maxL none 0) (room : rm.frames + 1 ≤ R.frames ∧ 8 + (maxL + 11) + rm.locals ≤ R.locals) (hcells : cells + 1 + rm.cells ≤ R.cells) (hslots : slots + N + rm.slots ≤ R.slots)
    (dz : decode cc pc = .ok (.aload_n 0, 1)) (d0 : decode cc (pc + 1) = .ok (.new i0, 3)) (d1 : decode cc (pc + 1 + 3) = .ok (.dup, 1)) (d2 : decode cc (pc + 1 + 3 + 1) = .ok (.invokespecial i1, 3)) (d3 : decode cc (pc + 1 + 3 + 1 + 3) = .ok (.putfield idx, 3))
    (hkN : k < N0) (hfl : Cond.fieldLink own idx (T0 k).1 (T0 k).2.1 (T0 k).2.2.1 ∈ WS) (hfin : (T0 k).2.2.2 = true) (hdecl : (T0 k).1 = own) (hd : parseFieldDescriptor (T0 k).2.2.1 = some (.object C)) (hkf : k < fs.length)
    (kk : ∀ (q : Nat) (u : S) (H1 : Heap) (locs1 : List Loc), va_P D vwCl ((h0, .inr (ci, fs.set k (.ref q))) :: (r ++ w q u)) H1 → va_D A ((h0, .inr (ci, fs.set k (.ref q))) :: (r ++ w q u)) → va_S A H0 H1 locs1 → W p l e R s m args below meth c H1 locs1 (cells + 1 + rm.cells) (slots + N + rm.slots) Q (F0 m (pc + 1 + 3 + 1 + 3 + 3) ls [])) :
    W p l e R s m args below meth c H locs cells slots Q (F0 m pc ls []) := by
  refine lv_aload_n F.1 F.2.1 dz rfl hl ?_
  refine newO (rest := [.ref h0]) F hml hsz hC hM hP hD hS hA hcl hinst hini ty hty hfs nest hyi hyn hk room hcells hslots (by show 1 ≤ 7; decide) d0 d1 d2 (fun q u H1 locs1 hP1 hD1 hS1 => ?_)
  obtain ⟨hx, hb, hts, hown, hnm, hK⟩ := F
  obtain ⟨hc, hin, ⟨ty0, hty0⟩, hnd⟩ := hC0
  exact va_putF (D := D) (ci := ci) (v := .ref q) (ty := .object C) (C := own) (T := T0) (N := N0) (ref := (T0 k).1) hx hb hts hin ty0 hty0 hnd hown hK hP1 hD1 hS1 0 rfl hc k hkN (hts _ hfl) (fun _ h => h) hfin hnm hdecl hd rfl rfl hkf d3 (fun H2 locs2 hP2 hD2 hS2 => kk q u H2 locs2 hP2 hD2 hS2)
/-- a row of references, for a field -/
theorem mkQ {h0 ci N n k idx ic lp j pc : Nat} {own C : String} {T : u_T} {ip : Instr} {fs : List Value} {r : va_W} (F : CF p s m args meth c cc own D cy) (hC : CT ci N own T) (hl : ls[0]? = some (.val (.ref h0)))
    (hP : va_P D vwCl ((h0, .inr (ci, fs)) :: r) H) (hD : va_D A ((h0, .inr (ci, fs)) :: r)) (hS : va_S A H0 H locs) (hA : ∀ q, H0.size ≤ q → A q)
    (d0 : decode cc pc = .ok (.aload_n 0, 1)) (d1 : decode cc (pc + 1) = .ok (ip, lp)) (hip : isPush ip lp (nI n)) (d2 : decode cc (pc + 1 + lp) = .ok (.anewarray ic, 3)) (d3 : decode cc (pc + 1 + lp + 3) = .ok (.putfield idx, 3))
    (hcl : Cond.classLink own ic C ∈ WS) (hao : va_AO C s) (htj : (tyl cy)[j]? = some (cy j, .object C))
    (hk : k < N) (hfl : Cond.fieldLink own idx (T k).1 (T k).2.1 (T k).2.2.1 ∈ WS) (hfin : (T k).2.2.2 = true) (hdecl : (T k).1 = own) (hd : parseFieldDescriptor (T k).2.2.1 = some (.array (.object C))) (hkf : k < fs.length) (hn : n < 1000) (hcells : cells + 1 ≤ R.cells) (hslots : slots + n ≤ R.slots)
    (kk : ∀ (q : Nat) (H1 : Heap) (locs1 : List Loc), va_P D vwCl ((h0, .inr (ci, fs.set k (.ref q))) :: (r ++ [(q, .inl (cy j, n, .inr (.inr (.inr (.inr (fun _ => none))))))])) H1 → va_D A ((h0, .inr (ci, fs.set k (.ref q))) :: (r ++ [(q, .inl (cy j, n, .inr (.inr (.inr (.inr (fun _ => none))))))])) → va_S A H0 H1 locs1 → W p l e R s m args below meth c H1 locs1 (cells + 1) (slots + n) Q (F0 m (pc + 1 + lp + 3 + 3) ls [])) :
    W p l e R s m args below meth c H locs cells slots Q (F0 m pc ls []) := by
  obtain ⟨hx, hb, hts, hown, hnm, hK⟩ := F
  obtain ⟨hc, hin, ⟨ty0, hty⟩, hnd⟩ := hC
  refine lv_aload_n hx hb d0 rfl hl ?_
  refine pushN hx hb d1 hip ?_
  refine va_newq (C := C) (N' := n) hx hb hown (hts _ hcl) hao hK hP hD hS hA (nI_pos (by omega)) (nI_clamp (by omega)) (by omega) hcells hslots d2 (fun q cA H1 hK1 hP1 hD1 hS1 => ?_)
  have hcA : cA = cy j := ra_obj (hK1.2 5 (cA, .object C) rfl).2 (hK.2 j _ htj).2
  subst hcA
  exact va_putF (D := D) (ci := ci) (v := .ref q) (ty := .array (.object C)) (C := own) (T := T) (N := N) (ref := (T k).1) hx hb hts hin ty0 hty hnd hown hK hP1 hD1 hS1 0 rfl hc k hk (hts _ hfl) (fun _ h => h) hfin hnm hdecl hd rfl rfl hkf d3 (fun H2 locs2 hP2 hD2 hS2 => kk q H2 locs2 hP2 hD2 hS2)
end Born2
