/-! the law makes its two objects -/
section Law3
variable {p : Program} {l : Launch} {e : Env} {s : State} {m : MethodId} {args : Array Value} {below : List Frame} {meth : Method} {c : Code} {H : Heap} {locs : List Loc} {nc ns : Nat} {Q : State → Prop} {ls : Array Slot} {D : va_G} {cy : Nat → ClassId}
theorem ex_blind {D : va_G} {cy : Nat → ClassId} {t : Nat} {bl : List Value} {h0 sz : Nat} {ex : State → Prop} (hxw : ∀ U U' : State, U.WarmedH U'.vm → ex U → ex U') : FrameBlind (va_Pc [.ref h0] (fun U => bornP D cy t bl h0 sz U ∧ ex U)) := fun a U g mk q => ⟨q.1, ⟨q.2.1.1, q.2.1.2.1, va_K.moved (u := U) (U := U.calling g mk a) (Vm.Alike.refl U.vm) q.2.1.2.2.1, q.2.1.2.2.2⟩, hxw U (U.calling g mk a) (State.WarmedH.refl U) q.2.2⟩
theorem newL {S : Type} {w : Nat → S → va_W} {bl : List Value} {ex : State → Prop} {t N i0 i1 pc maxL : Nat} {C : String} {T : u_T} {y : MethodName} {cc2 : ByteArray} {rm : Room} {ws : va_W} (hx : p.tables.exec = Jvm.exec) (hb : c.code = code) (hml : c.maxLocals = 4) (hown : s.vm.findClass R_law = some m.cls) (hts : ∀ w ∈ WS, w.before args s = true) (hK : va_K D vwCl (tyl cy) s) (hsz : ls.size = 4) (hC : CT t N C T) (hM : bornM l D cy y cc2 maxL rm t bl w ex) (hxw : ∀ U U' : State, U.WarmedH U'.vm → ex U → ex U') (hex : ex s)
    (hP : va_P D vwCl ws H) (hD : va_D (fun q => s.heap.size ≤ q) ws) (hS : va_S (fun q => s.heap.size ≤ q) s.heap H locs) (hcl : Cond.classLink R_law i0 C ∈ WS) (hinst : Cond.instantiable C N ∈ WS) (hini : Cond.initialized C ∈ WS) (ty : Nat → FieldType) (hty : ∀ k, k < N → parseFieldDescriptor (T k).2.2.1 = some (ty k)) (hfs : ∀ j, j < N → defaultValue (ty j) = vp_V bl j)
    (hl : Cond.methodLink R_law i1 y ∈ WS) (hyi : Cond.instanceMethod y ∈ WS) (hyn : y.name = "<init>") (hk : LnkOK y cc2 maxL none 0) (room : rm.frames + 1 ≤ 13 ∧ 8 + (maxL + 11) + rm.locals ≤ 482) (hcells : nc + 1 + rm.cells ≤ 600000) (hslots : ns + N + rm.slots ≤ 7302250)
    (d0 : decode code pc = .ok (.new i0, 3)) (d1 : decode code (pc + 3) = .ok (.dup, 1)) (d2 : decode code (pc + 3 + 1) = .ok (.invokespecial i1, 3))
    (kk : ∀ (q : Nat) (u : S) (H1 : Heap) (locs1 : List Loc), va_P D vwCl (ws ++ w q u) H1 → va_D (fun q => s.heap.size ≤ q) (ws ++ w q u) → va_S (fun q => s.heap.size ≤ q) s.heap H1 locs1 → W p l e room_1 s m args below meth c H1 locs1 (nc + 1 + rm.cells) (ns + N + rm.slots) Q (F0 m (pc + 3 + 1 + 3) ls [.ref q])) :
    W p l e room_1 s m args below meth c H locs nc ns Q (F0 m pc ls []) := by
  obtain ⟨hc, hin, -, hnd⟩ := hC
  have hA : ∀ q, s.heap.size ≤ q → (fun q => s.heap.size ≤ q) q := fun _ h => h
  refine va_new (ci := t) (fs := bl) (C := C) (T := T) (N := N) hx hb hts hin ty hty hown (hts _ hcl) (hts _ hinst) (hts _ hini) hK hP hD hS hA hc hfs (show nc + 1 ≤ 600000 by omega) (show ns + N ≤ 7302250 by omega) d0 (fun q H1 hP1 hD1 hS1 => ?_)
  refine lv_dup hx hb d1 rfl ?_
  have hF := oneF hD1 hS1 hA
  have hcB : CallB room_1 s args R_law i1 y cc2 maxL none (Cond.code y cc2 maxL none :: WS) rm rm.cells rm.slots 0 := callB_of (Ts := WS) 0 hts (good_ws hk.1) rfl rfl rfl (hts _ hk.2.1) (hts _ hl) ⟨hk.2.2.1.1, hk.2.2.1.2, hk.2.2.2⟩ room
  refine va_callv (va_runI (As := []) (rest := [.ref q]) ⟨hx, hb, hml, hown, hts⟩ (hM q H1.size) ⟨hcB, hyn, hts _ hyi⟩ ⟨ex_blind hxw, fun U hU hW => ⟨rfl, ⟨by rw [hU], by rw [hU]; exact oneP hP1, va_K.moved hW.alike hK, oneD⟩, hxw s U hW hex⟩⟩ rfl rfl hsz rfl (lv_room (by show 1 + 0 ≤ 8; decide)) d2 ⟨hcells, hslots⟩) hS1 (fun x _ h => hF x h) hF (fun u t2 H2 locs2 ht hvm _ hB hz1 hk1 hS2 => ?_)
  obtain ⟨hPu, hDu⟩ := hB
  rw [ht] at hPu
  obtain ⟨hP2, hD2⟩ := joinL hP1 hD1 hk1 hF hPu hDu
  exact kk q u H2 locs2 hP2 hD2 hS2
end Law3
