/-! objects are made: steps of constructors -/
theorem joinL {A0 : Nat → Prop} {D : va_G} {cl : List vw_C} {ws w1 : va_W} {x : Nat × va_E} {H H1 : Heap} (hP : va_P D cl (ws ++ [x]) H) (hD : va_D A0 (ws ++ [x])) (hk : ∀ q : Nat, q < H.size → ¬ va_A [x] H.size q → H1[q]? = H[q]?) (hF : ∀ q, va_A [x] H.size q → A0 q) (hP1 : va_P D cl w1 H1) (hD1 : va_D (va_A [x] H.size) w1) : va_P D cl (ws ++ w1) H1 ∧ va_D A0 (ws ++ w1) := by
  have at_ : ∀ (k : Nat) (q : Nat × va_E), ws[k]? = some q → (ws ++ [x])[k]? = some q := fun k q hq => by
    rw [List.getElem?_append_left (List.getElem?_eq_some_iff.mp hq).1]
    exact hq
  have apart : ∀ (k : Nat) (q : Nat × va_E), ws[k]? = some q → q.1 < H.size ∧ ¬ va_A [x] H.size q.1 := by
    intro k q hq
    have hl := (hP k q (at_ k q hq)).lt
    refine ⟨hl, fun h => ?_⟩
    rcases h with ⟨k2, e, h⟩ | h
    · have hz : k2 < 1 := (List.getElem?_eq_some_iff.mp h).1
      rw [show k2 = 0 by omega] at h
      have hx : x = (q.1, e) := Option.some.inj h
      have hlast : (ws ++ [x])[ws.length]? = some x := by
        rw [List.getElem?_append_right (Nat.le_refl _), Nat.sub_self]
        rfl
      have := hD.1 k ws.length q x (at_ k q hq) hlast (by rw [hx])
      have := (List.getElem?_eq_some_iff.mp hq).1
      omega
    · omega
  refine ⟨va_P.app (fun k q hq => ?_) hP1, va_D.app ⟨fun i j p q hi hj e => hD.1 i j p q (at_ i p hi) (at_ j q hj) e, fun k q hq => hD.2 k q (at_ k q hq)⟩ (hD1.weaken (fun k q _ h => hF q.1 h)) (fun i j p q hp hq e => ?_)⟩
  · obtain ⟨g1, g2⟩ := apart k q hq
    exact (hP k q (at_ k q hq)).kept (hk q.1 g1 g2)
  · exact (apart i p hp).2 (by rw [e]; exact hD1.2 j q hq)
def arW (cy : Nat → ClassId) (j n : Nat) : va_E := .inl (cy j, n, .inl (fun _ => 0))
section Born
variable {p : Program} {l : Launch} {e : Env} {R : Room} {s : State} {m : MethodId} {args : Array Value} {below : List Frame} {meth : Method} {c : Code} {H H0 : Heap} {locs : List Loc} {cells slots : Nat} {Q : State → Prop} {cc : ByteArray} {ls : Array Slot} {D : va_G} {cy : Nat → ClassId} {A : Nat → Prop}
def isPush (ip : Instr) (lp : Nat) (v : Int32) : Prop := (∃ n, ip = .iconst n ∧ lp = 1 ∧ Int32.ofInt n = v) ∨ (∃ n, ip = .bipush n ∧ lp = 2 ∧ (Int8.ofInt n).toInt32 = v) ∨ (∃ n, ip = .sipush n ∧ lp = 3 ∧ (Int16.ofInt n).toInt32 = v)
theorem pushN (hx : p.tables.exec = Jvm.exec) (hb : c.code = cc) {pc lp : Nat} {ip : Instr} {v : Int32} {rest : List Value} (d : decode cc pc = .ok (ip, lp)) (hip : isPush ip lp v) (k : W p l e R s m args below meth c H locs cells slots Q (F0 m (pc + lp) ls (.int v :: rest))) : W p l e R s m args below meth c H locs cells slots Q (F0 m pc ls rest) := by
  rcases hip with ⟨n, rfl, rfl, hv⟩ | ⟨n, rfl, rfl, hv⟩ | ⟨n, rfl, rfl, hv⟩
  · exact lv_iconst hx hb d hv k
  · exact lv_bipush hx hb d hv k
  · exact lv_sipush hx hb d hv k
/-- what a constructor's steps are taken with -/
def CF (p : Program) (s : State) (m : MethodId) (args : Array Value) (meth : Method) (c : Code) (cc : ByteArray) (own : String) (D : va_G) (cy : Nat → ClassId) : Prop := p.tables.exec = Jvm.exec ∧ c.code = cc ∧ (∀ w ∈ WS, w.before args s = true) ∧ s.vm.findClass own = some m.cls ∧ meth.name = "<init>" ∧ va_K D vwCl (tyl cy) s
/-- what is known of the fields of an object -/
def CT (ci N : Nat) (own : String) (T : u_T) : Prop := vwCl[ci]? = some (own, T, N) ∧ (∀ w ∈ u_ws own T N, w ∈ WS) ∧ (∃ ty0 : Nat → FieldType, ∀ k, k < N → parseFieldDescriptor (T k).2.2.1 = some (ty0 k)) ∧ ∀ a, a < N → ∀ b, b < N → a ≠ b → (T a).2.1 ≠ (T b).2.1
theorem ra_int {U : State} {x y : ClassId} (h : va_RA U x .int) (h' : va_RA U y .int) : x = y := Option.some.inj ((va_nm_int h).symm.trans (va_nm_int h'))
theorem ra_byte {U : State} {x y : ClassId} (h : va_RA U x .byte) (h' : va_RA U y .byte) : x = y := Option.some.inj ((va_nm_byte h).symm.trans (va_nm_byte h'))
theorem ra_bool {U : State} {x y : ClassId} (h : va_RA U x .boolean) (h' : va_RA U y .boolean) : x = y := Option.some.inj ((va_nm_boolean h).symm.trans (va_nm_boolean h'))
theorem ra_obj {U : State} {C : String} {x y : ClassId} (h : va_RA U x (.object C)) (h' : va_RA U y (.object C)) : x = y := by
  obtain ⟨_, _, _, _, _, h4⟩ := h
  obtain ⟨_, _, _, _, _, h4'⟩ := h'
  exact Option.some.inj (h4.symm.trans h4')
/-- a kind of array: its number, its type -/
def AK (j : Nat) (ty : FieldType) (atype : ArrayType) : Prop := (j = 0 ∧ ty = .int ∧ atype = .int) ∨ (j = 1 ∧ ty = .byte ∧ atype = .byte) ∨ (j = 2 ∧ ty = .boolean ∧ atype = .boolean)
theorem mkA {h0 ci N n k idx lp j pc : Nat} {own : String} {T : u_T} {ty : FieldType} {atype : ArrayType} {ip : Instr} {fs : List Value} {r : va_W} (F : CF p s m args meth c cc own D cy) (hC : CT ci N own T) (hl : ls[0]? = some (.val (.ref h0)))
    (hP : va_P D vwCl ((h0, .inr (ci, fs)) :: r) H) (hD : va_D A ((h0, .inr (ci, fs)) :: r)) (hS : va_S A H0 H locs) (hA : ∀ q, H0.size ≤ q → A q)
    (d0 : decode cc pc = .ok (.aload_n 0, 1)) (d1 : decode cc (pc + 1) = .ok (ip, lp)) (hip : isPush ip lp (nI n)) (d2 : decode cc (pc + 1 + lp) = .ok (.newarray atype, 2)) (d3 : decode cc (pc + 1 + lp + 2) = .ok (.putfield idx, 3))
    (hk : k < N) (hfl : Cond.fieldLink own idx (T k).1 (T k).2.1 (T k).2.2.1 ∈ WS) (hfin : (T k).2.2.2 = true) (hdecl : (T k).1 = own) (hd : parseFieldDescriptor (T k).2.2.1 = some (.array ty)) (hkf : k < fs.length) (hak : AK j ty atype) (harr : Cond.arrayClass ty ∈ WS) (hn : n < 1000) (hcells : cells + 1 ≤ R.cells) (hslots : slots + n ≤ R.slots)
    (kk : ∀ (q : Nat) (H1 : Heap) (locs1 : List Loc), va_P D vwCl ((h0, .inr (ci, fs.set k (.ref q))) :: (r ++ [(q, arW cy j n)])) H1 → va_D A ((h0, .inr (ci, fs.set k (.ref q))) :: (r ++ [(q, arW cy j n)])) → va_S A H0 H1 locs1 → W p l e R s m args below meth c H1 locs1 (cells + 1) (slots + n) Q (F0 m (pc + 1 + lp + 2 + 3) ls [])) :
    W p l e R s m args below meth c H locs cells slots Q (F0 m pc ls []) := by
  obtain ⟨hx, hb, hts, hown, hnm, hK⟩ := F
  obtain ⟨hc, hin, ⟨ty0, hty⟩, hnd⟩ := hC
  have hat : newarray.typeOf atype = ty := by rcases hak with ⟨-, rfl, rfl⟩ | ⟨-, rfl, rfl⟩ | ⟨-, rfl, rfl⟩ <;> rfl
  have hdef : defaultValue ty = .int 0 := by rcases hak with ⟨-, rfl, rfl⟩ | ⟨-, rfl, rfl⟩ | ⟨-, rfl, rfl⟩ <;> rfl
  have hcb : componentBytes ty ≤ 4 := by rcases hak with ⟨-, rfl, rfl⟩ | ⟨-, rfl, rfl⟩ | ⟨-, rfl, rfl⟩ <;> decide
  have hun : ∀ cA, va_RA s cA ty → cA = cy j := fun cA h => by
    rcases hak with ⟨rfl, rfl, rfl⟩ | ⟨rfl, rfl, rfl⟩ | ⟨rfl, rfl, rfl⟩
    · exact ra_int h (hK.2 0 _ rfl).2
    · exact ra_byte h (hK.2 1 _ rfl).2
    · exact ra_bool h (hK.2 2 _ rfl).2
  refine lv_aload_n hx hb d0 rfl hl ?_
  refine pushN hx hb d1 hip ?_
  refine va_newa (atype := atype) (ty := ty) (a0 := (n, .inl (fun _ => 0))) (N' := n) hx hb (by rw [hat]; exact hts _ harr) hat hK hP hD hS hA (fun cA => by rw [hdef]; rfl) (nI_pos (by omega)) (nI_clamp (by omega)) (Nat.le_trans (Nat.mul_le_mul (Nat.le_of_lt hn) hcb) (by decide)) hcells hslots d2 (fun q cA H1 hK1 hP1 hD1 hS1 => ?_)
  have hcA : cA = cy j := hun cA (hK1.2 5 (cA, ty) rfl).2
  subst hcA
  exact va_putF (D := D) (ci := ci) (v := .ref q) (ty := .array ty) (C := own) (T := T) (N := N) (ref := (T k).1) hx hb hts hin ty0 hty hnd hown hK hP1 hD1 hS1 0 rfl hc k hk (hts _ hfl) (fun _ h => h) hfin hnm hdecl hd rfl rfl hkf d3 (fun H2 locs2 hP2 hD2 hS2 => kk q H2 locs2 hP2 hD2 hS2)
theorem mkI {h0 ci N k idx lp pc : Nat} {v : Int32} {own : String} {T : u_T} {ip : Instr} {ty : FieldType} {fs : List Value} {r : va_W} (F : CF p s m args meth c cc own D cy) (hC : CT ci N own T) (hl : ls[0]? = some (.val (.ref h0)))
    (hP : va_P D vwCl ((h0, .inr (ci, fs)) :: r) H) (hD : va_D A ((h0, .inr (ci, fs)) :: r)) (hS : va_S A H0 H locs)
    (d0 : decode cc pc = .ok (.aload_n 0, 1)) (d1 : decode cc (pc + 1) = .ok (ip, lp)) (hip : isPush ip lp v) (d3 : decode cc (pc + 1 + lp) = .ok (.putfield idx, 3))
    (hk : k < N) (hfl : Cond.fieldLink own idx (T k).1 (T k).2.1 (T k).2.2.1 ∈ WS) (hfin : (T k).2.2.2 = false) (hd : parseFieldDescriptor (T k).2.2.1 = some ty) (hkf : k < fs.length) (hty1 : narrow ty (.int v) = .int v) (hty2 : fits ty (.int v) = true)
    (kk : ∀ (H1 : Heap) (locs1 : List Loc), va_P D vwCl ((h0, .inr (ci, fs.set k (.int v))) :: r) H1 → va_D A ((h0, .inr (ci, fs.set k (.int v))) :: r) → va_S A H0 H1 locs1 → W p l e R s m args below meth c H1 locs1 cells slots Q (F0 m (pc + 1 + lp + 3) ls [])) :
    W p l e R s m args below meth c H locs cells slots Q (F0 m pc ls []) := by
  obtain ⟨hx, hb, hts, hown, hnm, hK⟩ := F
  obtain ⟨hc, hin, ⟨ty0, hty⟩, hnd⟩ := hC
  refine lv_aload_n hx hb d0 rfl hl ?_
  refine pushN hx hb d1 hip ?_
  exact va_put (D := D) (ci := ci) (v := .int v) (ty := ty) (C := own) (T := T) (N := N) (ref := (T k).1) hx hb hts hin ty0 hty hnd hown hK hP hD hS 0 rfl hc k hk (hts _ hfl) (fun _ h => h) hfin hd hty1 hty2 hkf d3 (fun H2 locs2 hP2 hD2 hS2 => kk H2 locs2 hP2 hD2 hS2)
end Born
/-! contracts of constructors -/
def bornP (D : va_G) (cy : Nat → ClassId) (t : Nat) (bl : List Value) (h0 sz : Nat) (U : State) : Prop := U.heap.size = sz ∧ va_P D vwCl [(h0, .inr (t, bl))] U.heap ∧ va_K D vwCl (tyl cy) U ∧ va_D (fun _ => True) [(h0, .inr (t, bl))]
def bornQ (D : va_G) (t : Nat) (bl : List Value) {S : Type} (w : Nat → S → va_W) (h0 sz : Nat) (u : S) (U : State) : Prop := va_P D vwCl (w h0 u) U.heap ∧ va_D (va_A [(h0, .inr (t, bl))] sz) (w h0 u)
def bornM (l : Launch) (D : va_G) (cy : Nat → ClassId) (y : MethodName) (cc : ByteArray) (maxL : Nat) (rm : Room) (t : Nat) (bl : List Value) {S : Type} (w : Nat → S → va_W) (ex : State → Prop) : Prop := ∀ h0 sz : Nat, Met l y (Cond.code y cc maxL none :: WS) rm (va_Pc [.ref h0] (fun U => bornP D cy t bl h0 sz U ∧ ex U)) (va_Qv (fun _ : S => True) (bornQ D t bl w h0 sz) (va_A [(h0, .inr (t, bl))] sz)) rm.cells rm.slots (va_A [(h0, .inr (t, bl))] sz)
