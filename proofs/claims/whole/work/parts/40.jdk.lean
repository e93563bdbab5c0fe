/-! the JDK's own: length and charAt of a text constant -/
theorem kJ0_length_8abf5 : LnkOK yJ0_length_8abf5 cJ0_length_8abf5 1 (some .int) 0 := ⟨inWS 281 (by decide +kernel) rfl, inWS 64 (by decide +kernel) rfl, by decide +kernel, by decide +kernel⟩
theorem qJ0_length_8abf5 : Cond.instanceMethod yJ0_length_8abf5 ∈ WS ∧ Cond.selects RJ0 yJ0_length_8abf5 yJ0_length_8abf5 ∈ WS := ⟨inWS 279 (by decide +kernel) rfl, inWS 280 (by decide +kernel) rfl⟩
theorem kJ0_coder_7d493 : LnkOK yJ0_coder_7d493 cJ0_coder_7d493 1 (some .byte) 0 := ⟨inWS 285 (by decide +kernel) rfl, inWS 64 (by decide +kernel) rfl, by decide +kernel, by decide +kernel⟩
theorem qJ0_coder_7d493 : Cond.instanceMethod yJ0_coder_7d493 ∈ WS ∧ Cond.selects RJ0 yJ0_coder_7d493 yJ0_coder_7d493 ∈ WS := ⟨inWS 283 (by decide +kernel) rfl, inWS 284 (by decide +kernel) rfl⟩
theorem kJ0_charAt_5068e : LnkOK yJ0_charAt_5068e cJ0_charAt_5068e 2 (some .char) 1 := ⟨inWS 291 (by decide +kernel) rfl, inWS 64 (by decide +kernel) rfl, by decide +kernel, by decide +kernel⟩
theorem qJ0_charAt_5068e : Cond.instanceMethod yJ0_charAt_5068e ∈ WS ∧ Cond.selects RJ0 yJ0_charAt_5068e yJ0_charAt_5068e ∈ WS := ⟨inWS 289 (by decide +kernel) rfl, inWS 290 (by decide +kernel) rfl⟩
theorem kJ0_isLatin1_aae02 : LnkOK yJ0_isLatin1_aae02 cJ0_isLatin1_aae02 1 (some .boolean) 0 := ⟨inWS 295 (by decide +kernel) rfl, inWS 64 (by decide +kernel) rfl, by decide +kernel, by decide +kernel⟩
theorem qJ0_isLatin1_aae02 : Cond.instanceMethod yJ0_isLatin1_aae02 ∈ WS ∧ Cond.selects RJ0 yJ0_isLatin1_aae02 yJ0_isLatin1_aae02 ∈ WS := ⟨inWS 293 (by decide +kernel) rfl, inWS 294 (by decide +kernel) rfl⟩
theorem kJ1_charAt_3b067 : LnkOK yJ1_charAt_3b067 cJ1_charAt_3b067 2 (some .char) 2 := ⟨inWS 298 (by decide +kernel) rfl, inWS 65 (by decide +kernel) rfl, by decide +kernel, by decide +kernel⟩
theorem qJ1_charAt_3b067 : Cond.static yJ1_charAt_3b067 ∈ WS := inWS 297 (by decide +kernel) rfl
theorem kJ0_checkIndex_df160 : LnkOK yJ0_checkIndex_df160 cJ0_checkIndex_df160 2 none 2 := ⟨inWS 301 (by decide +kernel) rfl, inWS 64 (by decide +kernel) rfl, by decide +kernel, by decide +kernel⟩
theorem qJ0_checkIndex_df160 : Cond.static yJ0_checkIndex_df160 ∈ WS := inWS 300 (by decide +kernel) rfl
theorem kJ3_checkIndex_8e157 : LnkOK yJ3_checkIndex_8e157 cJ3_checkIndex_8e157 3 (some .int) 3 := ⟨inWS 306 (by decide +kernel) rfl, inWS 66 (by decide +kernel) rfl, by decide +kernel, by decide +kernel⟩
theorem qJ3_checkIndex_8e157 : Cond.static yJ3_checkIndex_8e157 ∈ WS := inWS 305 (by decide +kernel) rfl
theorem mlJ0_335 : Cond.methodLink RJ0 335 yJ0_coder_7d493 ∈ WS := inWS 282 (by decide +kernel) rfl
theorem mlJ0_492 : Cond.methodLink RJ0 492 yJ0_isLatin1_aae02 ∈ WS := inWS 292 (by decide +kernel) rfl
theorem mlJ0_495 : Cond.methodLink RJ0 495 yJ1_charAt_3b067 ∈ WS := inWS 296 (by decide +kernel) rfl
theorem mlJ0_1059 : Cond.methodLink RJ0 1059 yJ3_checkIndex_8e157 ∈ WS := inWS 304 (by decide +kernel) rfl
theorem mlJ1_9 : Cond.methodLink RJ1 9 yJ0_checkIndex_df160 ∈ WS := inWS 299 (by decide +kernel) rfl
theorem flJ0_38 : Cond.fieldLink RJ0 38 "java/lang/String" "COMPACT_STRINGS" "Z" ∈ WS := inWS 286 (by decide +kernel) rfl
theorem flJ0_1053 : Cond.fieldLink RJ0 1053 "jdk/internal/util/Preconditions" "SIOOBE_FORMATTER" "Ljava/util/function/BiFunction;" ∈ WS := inWS 302 (by decide +kernel) rfl
theorem flJ0_9 : Cond.fieldLink RJ0 9 "java/lang/String" "value" "[B" ∈ WS := inWS 1124 (by decide +kernel) rfl
theorem flJ0_15 : Cond.fieldLink RJ0 15 "java/lang/String" "coder" "B" ∈ WS := inWS 1125 (by decide +kernel) rfl
def PreU (g : Gm) (vs : List Value) : Array Value → State → Prop := fun v U => v = vs.toArray ∧ gG g U
def PostU (r : Option Value) : Array Value → State → Outcome → State → Prop := fun _ st o t => o = .returned r ∧ t.heap = st.heap
def MetU (g : Gm) (y : MethodName) (cc : ByteArray) (maxL : Nat) (ret : Option FieldType) (lvl : Nat) (vs : List Value) (r : Option Value) : Prop := Met (gL g) y (Cond.code y cc maxL ret :: WS) (rmL lvl) (PreU g vs) (PostU r) 0 0 (fun _ => False)
theorem MetU.of {g : Gm} {y : MethodName} {cc : ByteArray} {maxL : Nat} {ret : Option FieldType} {lvl : Nat} {vs : List Value} {r : Option Value} (hy : plainName y.cls = true) (hsl : (lg_sl vs).length ≤ maxL)
    (h : ∀ (p : Program) (e : Env) (s : State) (m : MethodId) (below : List Frame) (meth : Method) (c : Code) (A : Array Slot), p.tables.exec = Jvm.exec → c.code = cc → meth.sig.returnType = ret → c.maxLocals = maxL → s.vm.findClass y.cls = some m.cls → (∀ w ∈ WS, w.before vs.toArray s = true) → gG g s → meth.locks = false → lv_has A maxL (lv_args 0 vs) →
      W p (gL g) e (rmL lvl) s m vs.toArray below meth c s.heap [] 0 0 (MQ below (PostU r) vs.toArray s 0 0 (fun _ => False)) (F0 m 0 A [])) : MetU g y cc maxL ret lvl vs r := by
  refine Met.ofW (cc := cc) (maxL := maxL) (ret := ret) hy rfl ?_
  intro p e s m args below meth c s₁ B hml hv
  obtain ⟨rfl, hG⟩ := hv
  have hts := atoms_spec (ws := Cond.code y cc maxL ret :: WS) B.pre
  have hl := lv_entry vs (n := maxL) hsl
  rw [lg_entry_eq]
  exact h p e s m below meth c _ B.exec B.bytes B.returns hml (findClass_of_methodNamed B.named) (fun w hw => hts w (List.mem_cons_of_mem _ hw)) hG B.notSynchronized hl
theorem PreU_blind {g : Gm} (hg : GmOK g) (vs : List Value) : FrameBlind (PreU g vs) := fun _ U fr mk q => ⟨q.1, hg.2.2.2.1 U (U.calling fr mk _) (State.WarmedH.refl U) (Nat.le_refl _) (fun _ _ _ => rfl) q.2⟩
theorem callU {g : Gm} {p : Program} {e : Env} {R : Room} {s : State} {m : MethodId} {args : Array Value} {below : List Frame} {meth : Method} {c : Code} {Qg : State → Prop} {H : Heap} {locs : List Loc} {ls : Array Slot} {pc : Nat} {st0 rest : List Value} {r : Option Value} {av : Array Value}
    (hr : va_Run p (gL g) e R s m args below meth c H locs 0 0 0 0 (F0 m pc ls st0) rest (PostU r av) (fun _ => False))
    (kk : W p (gL g) e R s m args below meth c H locs 0 0 Qg (F0 m (pc + 3) ls (r.toList ++ rest))) : W p (gL g) e R s m args below meth c H locs 0 0 Qg (F0 m pc ls st0) := by
  intro T hT X
  obtain ⟨v, st₀, t, T', L, h0, X', hL, e1, e2, ⟨hv, hh⟩, st⟩ := hr T hT X
  cases hv
  have hLn : L = [] := by
    cases L with
    | nil => rfl
    | cons q L => exact (hL q List.mem_cons_self).elim
  subst hLn
  rw [List.append_nil] at X'
  obtain ⟨t2, a1, b1⟩ := kk T' (by rw [e1, hh, h0]) X'
  exact ⟨t2, st t2 a1, b1⟩
theorem PreU_at {g : Gm} (hg : GmOK g) {s : State} {H : Heap} {locs : List Loc} (hG : gG g s) (hS : va_S (gA g) s.heap H locs) (vs : List Value) : ∀ U : State, U.heap = H → s.WarmedH U.vm → PreU g vs vs.toArray U := fun U hU hW => ⟨rfl, hg.2.2.2.1 s U hW (by rw [hU]; exact hS.1) (fun q h1 h2 => by rw [hU]; exact hS.2.1 q h1 h2) hG⟩
theorem mJ0_coder {g : Gm} (hg : GmOK g) {i : Nat} (hi : i < 4) : MetU g yJ0_coder_7d493 cJ0_coder_7d493 1 (some .byte) 0 [.ref (gAd g (9, i, 0))] (some (.int 0)) := by
  refine MetU.of (by decide +kernel) (Nat.le_of_ble_eq_true rfl) (fun p e s m below meth c A hx hb hr hml hown hts hG hlk hl => ?_)
  obtain ⟨-, -, ⟨adV, hE⟩, -, hZ, -⟩ := hg.2.2.2.2 s hG
  have hS : va_S (gA g) s.heap s.heap [] := va_S.rf
  refine va_gets hx hb hZ hS hown (hts _ flJ0_38) (fun _ q => q) (show decode cJ0_coder_7d493 0 = _ by decide +kernel) ?_
  refine lv_if_eq (tgt := 13) hx hb (show decode cJ0_coder_7d493 3 = .ok (.ifCond .eq 10, 3) by decide +kernel) (by decide) (fun q => absurd q (by decide)) (fun _ => ?_)
  refine lv_aload_n hx hb (show decode cJ0_coder_7d493 6 = .ok (.aload_n 0, 1) by decide +kernel) rfl (lv_at hl 0 rfl) ?_
  refine vk_getf hx hb (hE.1 i hi).2.1 hS hown (hts _ flJ0_15) (fun _ q => q) (show decode cJ0_coder_7d493 7 = _ by decide +kernel) ?_
  refine lv_goto (tgt := 14) hx hb (show decode cJ0_coder_7d493 10 = .ok (.goto 4, 3) by decide +kernel) (by decide) ?_
  exact W.zret hx hb hr (by decide +kernel) (fun t ht hW => ⟨rfl, ht⟩) (fun q h => by cases h) (show decode cJ0_coder_7d493 14 = _ by decide +kernel) hlk
theorem mJ0_isLatin1 {g : Gm} (hg : GmOK g) {i : Nat} (hi : i < 4) : MetU g yJ0_isLatin1_aae02 cJ0_isLatin1_aae02 1 (some .boolean) 0 [.ref (gAd g (9, i, 0))] (some (.int 1)) := by
  refine MetU.of (by decide +kernel) (Nat.le_of_ble_eq_true rfl) (fun p e s m below meth c A hx hb hr hml hown hts hG hlk hl => ?_)
  obtain ⟨-, -, ⟨adV, hE⟩, -, hZ, -⟩ := hg.2.2.2.2 s hG
  have hS : va_S (gA g) s.heap s.heap [] := va_S.rf
  refine va_gets hx hb hZ hS hown (hts _ flJ0_38) (fun _ q => q) (show decode cJ0_isLatin1_aae02 0 = _ by decide +kernel) ?_
  refine lv_if_eq (tgt := 17) hx hb (show decode cJ0_isLatin1_aae02 3 = .ok (.ifCond .eq 14, 3) by decide +kernel) (by decide) (fun q => absurd q (by decide)) (fun _ => ?_)
  refine lv_aload_n hx hb (show decode cJ0_isLatin1_aae02 6 = .ok (.aload_n 0, 1) by decide +kernel) rfl (lv_at hl 0 rfl) ?_
  refine vk_getf hx hb (hE.1 i hi).2.1 hS hown (hts _ flJ0_15) (fun _ q => q) (show decode cJ0_isLatin1_aae02 7 = _ by decide +kernel) ?_
  refine lv_if_ne (tgt := 17) hx hb (show decode cJ0_isLatin1_aae02 10 = .ok (.ifCond .ne 7, 3) by decide +kernel) (by decide) (fun q => absurd rfl q) (fun _ => ?_)
  refine lv_iconst (v := 1) hx hb (show decode cJ0_isLatin1_aae02 13 = .ok (.iconst 1, 1) by decide +kernel) (by decide) ?_
  refine lv_goto (tgt := 18) hx hb (show decode cJ0_isLatin1_aae02 14 = .ok (.goto 4, 3) by decide +kernel) (by decide) ?_
  exact W.zret hx hb hr (by decide +kernel) (fun t ht hW => ⟨rfl, ht⟩) (fun q h => by cases h) (show decode cJ0_isLatin1_aae02 18 = _ by decide +kernel) hlk
def strL (i : Nat) : Nat := [3, 4, 1, 1].getD i 0
theorem mJ0_length {g : Gm} (hg : GmOK g) {i : Nat} (hi : i < 4) : MetU g yJ0_length_8abf5 cJ0_length_8abf5 1 (some .int) 1 [.ref (gAd g (9, i, 0))] (some (.int (nI (strL i)))) := by
  refine MetU.of (by decide +kernel) (Nat.le_of_ble_eq_true rfl) (fun p e s m below meth c A hx hb hr hml hown hts hG hlk hl => ?_)
  obtain ⟨-, -, ⟨adV, hE⟩, -, hZ, -⟩ := hg.2.2.2.2 s hG
  have hS : va_S (gA g) s.heap s.heap [] := va_S.rf
  have hlen : strL i < 2 ^ 31 := by
    rcases (show i = 0 ∨ i = 1 ∨ i = 2 ∨ i = 3 by omega) with rfl | rfl | rfl | rfl <;> decide
  refine lv_aload_n hx hb (show decode cJ0_length_8abf5 0 = .ok (.aload_n 0, 1) by decide +kernel) rfl (lv_at hl 0 rfl) ?_
  refine vk_getf hx hb (hE.1 i hi).2.2.1 hS hown (hts _ flJ0_9) (fun _ q => q) (show decode cJ0_length_8abf5 1 = _ by decide +kernel) ?_
  refine va_tlen hx hb (hE.1 i hi).2.2.2 hS (v := nI (strL i)) rfl (show decode cJ0_length_8abf5 4 = _ by decide +kernel) ?_
  refine lv_aload_n hx hb (show decode cJ0_length_8abf5 5 = .ok (.aload_n 0, 1) by decide +kernel) rfl (lv_at hl 0 rfl) ?_
  refine callU (va_runV (As := []) (rest := [.int (nI (strL i))]) (C := RJ0) ⟨hx, hb, hml, hown, hts⟩ (mJ0_coder hg hi) ⟨callB_w (lvl := 1) (lvc := 0) kJ0_coder_7d493 hts mlJ0_335 ⟨by decide, by decide⟩, hts _ qJ0_coder_7d493.1, hts _ qJ0_coder_7d493.2⟩ ⟨PreU_blind hg _, vk_recv hE hi hS, PreU_at hg hG hS _⟩ rfl rfl hl.1 rfl (lv_room (Nat.le_of_ble_eq_true rfl)) (show decode cJ0_length_8abf5 6 = _ by decide +kernel) ⟨Nat.zero_le _, Nat.zero_le _⟩) ?_
  refine lv_ishr hx hb (show decode cJ0_length_8abf5 9 = _ by decide +kernel) ?_
  rw [sc_shr0 hlen]
  exact W.iret hx hb hr (fun t ht hW => ⟨rfl, ht⟩) (fun q h => by cases h) (show decode cJ0_length_8abf5 10 = _ by decide +kernel) hlk
theorem mJ3_check {g : Gm} (x : Value) (hx1 : x.category = 1) {k n : Nat} (hk : k < n) (hn : n < 2 ^ 31) : MetU g yJ3_checkIndex_8e157 cJ3_checkIndex_8e157 3 (some .int) 0 [.int (nI k), .int (nI n), x] (some (.int (nI k))) := by
  have hsl : (lg_sl [.int (nI k), .int (nI n), x]).length ≤ 3 := by
    cases x <;> first | exact Nat.le_of_ble_eq_true rfl | cases hx1
  refine MetU.of (by decide +kernel) hsl (fun p e s m below meth c A hx hb hr hml hown hts hG hlk hl => ?_)
  refine lv_iload_n hx hb (show decode cJ3_checkIndex_8e157 0 = .ok (.iload_n 0, 1) by decide +kernel) rfl (lv_at hl 0 rfl) ?_
  refine lv_if_lt (tgt := 9) hx hb (show decode cJ3_checkIndex_8e157 1 = .ok (.ifCond .lt 8, 3) by decide +kernel) (by decide) (fun q => absurd q (nI_pos (by omega))) (fun _ => ?_)
  refine lv_iload_n hx hb (show decode cJ3_checkIndex_8e157 4 = .ok (.iload_n 0, 1) by decide +kernel) rfl (lv_at hl 0 rfl) ?_
  refine lv_iload_n hx hb (show decode cJ3_checkIndex_8e157 5 = .ok (.iload_n 1, 1) by decide +kernel) rfl (lv_at hl 1 rfl) ?_
  refine lv_icmp_lt (tgt := 16) hx hb (show decode cJ3_checkIndex_8e157 6 = .ok (.if_icmp .lt 10, 3) by decide +kernel) (by decide) (fun _ => ?_) (fun q => absurd (nI_lt hk hn) q)
  refine lv_iload_n hx hb (show decode cJ3_checkIndex_8e157 16 = .ok (.iload_n 0, 1) by decide +kernel) rfl (lv_at hl 0 rfl) ?_
  exact W.iret hx hb hr (fun t ht hW => ⟨rfl, ht⟩) (fun q h => by cases h) (show decode cJ3_checkIndex_8e157 17 = _ by decide +kernel) hlk
theorem mJ0_check {g : Gm} (hg : GmOK g) {k n : Nat} (hk : k < n) (hn : n < 2 ^ 31) : MetU g yJ0_checkIndex_df160 cJ0_checkIndex_df160 2 none 1 [.int (nI k), .int (nI n)] none := by
  refine MetU.of (by decide +kernel) (Nat.le_of_ble_eq_true rfl) (fun p e s m below meth c A hx hb hr hml hown hts hG hlk hl => ?_)
  obtain ⟨-, -, -, -, -, hZ⟩ := hg.2.2.2.2 s hG
  have hS : va_S (gA g) s.heap s.heap [] := va_S.rf
  have hZ : ∃ x : Value, x.category = 1 ∧ va_Z "jdk/internal/util/Preconditions" "SIOOBE_FORMATTER" "Ljava/util/function/BiFunction;" x (gA g) s s.heap := hZ.elim (fun z => ⟨_, rfl, z⟩) (fun ⟨t, z⟩ => ⟨_, rfl, z⟩)
  obtain ⟨x, hx1, hZ⟩ := hZ
  refine lv_iload_n hx hb (show decode cJ0_checkIndex_df160 0 = .ok (.iload_n 0, 1) by decide +kernel) rfl (lv_at hl 0 rfl) ?_
  refine lv_iload_n hx hb (show decode cJ0_checkIndex_df160 1 = .ok (.iload_n 1, 1) by decide +kernel) rfl (lv_at hl 1 rfl) ?_
  refine va_gets hx hb hZ hS hown (hts _ flJ0_1053) (fun _ q => q) (show decode cJ0_checkIndex_df160 2 = _ by decide +kernel) ?_
  refine callU (va_runS (As := [.int (nI k), .int (nI n), x]) (rest := []) ⟨hx, hb, hml, hown, hts⟩ (mJ3_check (g := g) x hx1 hk hn) ⟨callB_w (lvl := 1) (lvc := 0) kJ3_checkIndex_8e157 hts mlJ0_1059 ⟨by decide, by decide⟩, hts _ qJ3_checkIndex_8e157⟩ ⟨PreU_blind hg _, PreU_at hg hG hS _⟩ rfl rfl hl.1 rfl (lv_room (Nat.le_of_ble_eq_true rfl)) (show decode cJ0_checkIndex_df160 5 = _ by decide +kernel) ⟨Nat.zero_le _, Nat.zero_le _⟩) ?_
  refine lv_pop hx hb (show decode cJ0_checkIndex_df160 8 = _ by decide +kernel) rfl ?_
  exact W.vret hx hb hr (fun t ht hW => ⟨rfl, ht⟩) (fun q h => by cases h) (show decode cJ0_checkIndex_df160 9 = _ by decide +kernel) hlk
def strC (i k : Nat) : Int32 := (strB.getD i []).getD k 0
theorem strC_ok : ∀ i, i < 4 → ∀ k, k < strL i → (strC i k &&& 255).toUInt32 % 65536 = (strC i k).toUInt32 ∧ narrow .char (.int (strC i k)) = .int (strC i k) := by decide +kernel
def PreT (g : Gm) (q i : Nat) (vs : List Value) : Array Value → State → Prop := fun v U => v = vs.toArray ∧ gG g U ∧ va_T .byte q (strL i) (fun j => .int (strC i j)) (gA g) U U.heap
theorem PreT_blind {g : Gm} (hg : GmOK g) (q i : Nat) (vs : List Value) : FrameBlind (PreT g q i vs) := fun _ U fr mk z => ⟨z.1, hg.2.2.2.1 U (U.calling fr mk _) (State.WarmedH.refl U) (Nat.le_refl _) (fun _ _ _ => rfl) z.2.1, va_T.moved (State.WarmedH.refl U).alike z.2.2⟩
theorem PreT_at {g : Gm} (hg : GmOK g) {s : State} {H : Heap} {locs : List Loc} {q i : Nat} (hG : gG g s) (hT : va_T .byte q (strL i) (fun j => .int (strC i j)) (gA g) s s.heap) (hS : va_S (gA g) s.heap H locs) (vs : List Value) : ∀ U : State, U.heap = H → s.WarmedH U.vm → PreT g q i vs vs.toArray U := fun U hU hW => ⟨rfl, hg.2.2.2.1 s U hW (by rw [hU]; exact hS.1) (fun q h1 h2 => by rw [hU]; exact hS.2.1 q h1 h2) hG, by rw [hU]; exact (va_T.moved hW.alike hT).kept hS.2.1⟩
theorem mJ1_charAt {g : Gm} (hg : GmOK g) {i k q : Nat} (hi : i < 4) (hk : k < strL i) : Met (gL g) yJ1_charAt_3b067 (Cond.code yJ1_charAt_3b067 cJ1_charAt_3b067 2 (some .char) :: WS) (rmL 2) (PreT g q i [.ref q, .int (nI k)]) (PostU (some (.int (strC i k)))) 0 0 (fun _ => False) := by
  refine Met.ofW (cc := cJ1_charAt_3b067) (maxL := 2) (ret := some .char) (by decide +kernel) rfl ?_
  intro p e s m args below meth c s₁ B hml hv
  obtain ⟨rfl, hG, hT⟩ := hv
  have hts0 := atoms_spec (ws := Cond.code yJ1_charAt_3b067 cJ1_charAt_3b067 2 (some .char) :: WS) B.pre
  have hl := lv_entry [.ref q, .int (nI k)] (n := 2) (Nat.le_of_ble_eq_true rfl)
  rw [lg_entry_eq]
  have hx := B.exec
  have hb := B.bytes
  have hr := B.returns
  have hown := findClass_of_methodNamed B.named
  have hlk := B.notSynchronized
  have hts : ∀ w ∈ WS, w.before ([.ref q, .int (nI k)] : List Value).toArray s = true := fun w hw => hts0 w (List.mem_cons_of_mem _ hw)
  have hS : va_S (gA g) s.heap s.heap [] := va_S.rf
  have hlen : strL i < 2 ^ 31 := by
    rcases (show i = 0 ∨ i = 1 ∨ i = 2 ∨ i = 3 by omega) with rfl | rfl | rfl | rfl <;> decide
  obtain ⟨c1, c2⟩ := strC_ok i hi k hk
  refine lv_iload_n hx hb (show decode cJ1_charAt_3b067 0 = .ok (.iload_n 1, 1) by decide +kernel) rfl (lv_at hl 1 rfl) ?_
  refine lv_aload_n hx hb (show decode cJ1_charAt_3b067 1 = .ok (.aload_n 0, 1) by decide +kernel) rfl (lv_at hl 0 rfl) ?_
  refine va_tlen hx hb hT hS (v := nI (strL i)) rfl (show decode cJ1_charAt_3b067 2 = _ by decide +kernel) ?_
  refine callU (va_runS (As := [.int (nI k), .int (nI (strL i))]) (rest := []) ⟨hx, hb, hml, hown, hts⟩ (mJ0_check hg hk hlen) ⟨callB_w (lvl := 2) (lvc := 1) kJ0_checkIndex_df160 hts mlJ1_9 ⟨by decide, by decide⟩, hts _ qJ0_checkIndex_df160⟩ ⟨PreU_blind hg _, PreU_at hg hG hS _⟩ rfl rfl hl.1 rfl (lv_room (Nat.le_of_ble_eq_true rfl)) (show decode cJ1_charAt_3b067 3 = _ by decide +kernel) ⟨Nat.zero_le _, Nat.zero_le _⟩) ?_
  refine lv_aload_n hx hb (show decode cJ1_charAt_3b067 6 = .ok (.aload_n 0, 1) by decide +kernel) rfl (lv_at hl 0 rfl) ?_
  refine lv_iload_n hx hb (show decode cJ1_charAt_3b067 7 = .ok (.iload_n 1, 1) by decide +kernel) rfl (lv_at hl 1 rfl) ?_
  refine va_tb hx hb hT hS (vp_in_nI hk hlen) rfl (show decode cJ1_charAt_3b067 8 = _ by decide +kernel) ?_
  rw [nI_clamp (show k < 2 ^ 31 by omega)]
  refine lv_sipush (v := 255) hx hb (show decode cJ1_charAt_3b067 9 = .ok (.sipush 255, 3) by decide +kernel) (by decide) ?_
  refine lv_iand hx hb (show decode cJ1_charAt_3b067 12 = _ by decide +kernel) ?_
  refine lv_i2c (v := strC i k) hx hb (show decode cJ1_charAt_3b067 13 = _ by decide +kernel) (by rw [c1]; rfl) ?_
  exact W.zret hx hb hr c2 (fun t ht hW => ⟨rfl, ht⟩) (fun q h => by cases h) (show decode cJ1_charAt_3b067 14 = _ by decide +kernel) hlk
theorem mJ0_charAt {g : Gm} (hg : GmOK g) {i k : Nat} (hi : i < 4) (hk : k < strL i) : MetU g yJ0_charAt_5068e cJ0_charAt_5068e 2 (some .char) 4 [.ref (gAd g (9, i, 0)), .int (nI k)] (some (.int (strC i k))) := by
  refine MetU.of (by decide +kernel) (Nat.le_of_ble_eq_true rfl) (fun p e s m below meth c A hx hb hr hml hown hts hG hlk hl => ?_)
  obtain ⟨-, -, ⟨adV, hE⟩, -, hZ, -⟩ := hg.2.2.2.2 s hG
  have hS : va_S (gA g) s.heap s.heap [] := va_S.rf
  have hT : va_T .byte (adV i) (strL i) (fun j => .int (strC i j)) (gA g) s s.heap := (hE.1 i hi).2.2.2
  refine lv_aload_n hx hb (show decode cJ0_charAt_5068e 0 = .ok (.aload_n 0, 1) by decide +kernel) rfl (lv_at hl 0 rfl) ?_
  refine callU (va_runV (As := []) (rest := []) (C := RJ0) ⟨hx, hb, hml, hown, hts⟩ (mJ0_isLatin1 hg hi) ⟨callB_w (lvl := 4) (lvc := 0) kJ0_isLatin1_aae02 hts mlJ0_492 ⟨by decide, by decide⟩, hts _ qJ0_isLatin1_aae02.1, hts _ qJ0_isLatin1_aae02.2⟩ ⟨PreU_blind hg _, vk_recv hE hi hS, PreU_at hg hG hS _⟩ rfl rfl hl.1 rfl (lv_room (Nat.le_of_ble_eq_true rfl)) (show decode cJ0_charAt_5068e 1 = _ by decide +kernel) ⟨Nat.zero_le _, Nat.zero_le _⟩) ?_
  refine lv_if_eq (tgt := 16) hx hb (show decode cJ0_charAt_5068e 4 = .ok (.ifCond .eq 12, 3) by decide +kernel) (by decide) (fun q => absurd q (by decide)) (fun _ => ?_)
  refine lv_aload_n hx hb (show decode cJ0_charAt_5068e 7 = .ok (.aload_n 0, 1) by decide +kernel) rfl (lv_at hl 0 rfl) ?_
  refine vk_getf hx hb (hE.1 i hi).2.2.1 hS hown (hts _ flJ0_9) (fun _ q => q) (show decode cJ0_charAt_5068e 8 = _ by decide +kernel) ?_
  refine lv_iload_n hx hb (show decode cJ0_charAt_5068e 11 = .ok (.iload_n 1, 1) by decide +kernel) rfl (lv_at hl 1 rfl) ?_
  refine callU (va_runS (As := [.ref (adV i), .int (nI k)]) (rest := []) ⟨hx, hb, hml, hown, hts⟩ (mJ1_charAt hg hi hk) ⟨callB_w (lvl := 4) (lvc := 2) kJ1_charAt_3b067 hts mlJ0_495 ⟨by decide, by decide⟩, hts _ qJ1_charAt_3b067⟩ ⟨PreT_blind hg _ _ _, PreT_at hg hG hT hS _⟩ rfl rfl hl.1 rfl (lv_room (Nat.le_of_ble_eq_true rfl)) (show decode cJ0_charAt_5068e 12 = _ by decide +kernel) ⟨Nat.zero_le _, Nat.zero_le _⟩) ?_
  exact W.zret hx hb hr (strC_ok i hi k hk).2 (fun t ht hW => ⟨rfl, ht⟩) (fun q h => by cases h) (show decode cJ0_charAt_5068e 15 = _ by decide +kernel) hlk
def sJ0_length : SP := fun As f a Q => match As with
  | [.inr (.inr (9, i, 0))] => i < 4 ∧ Q (some (.inl (nI (strL i)))) f a
  | _ => False
def sJ0_charAt : SP := fun As f a Q => match As with
  | [.inr (.inr (9, i, 0)), .inl x] => ∃ k, i < 4 ∧ x = nI k ∧ k < strL i ∧ Q (some (.inl (strC i k))) f a
  | _ => False
theorem callU2 {g : Gm} (hg : GmOK g) {lvl lvc idx n maxL : Nat} {y : MethodName} {cc : ByteArray} {ret : Option FieldType} {p : Program} {e : Env} {s : State} {m : MethodId} {args : Array Value} {below : List Frame} {meth : Method} {c : Code} {cc' : ByteArray} {nL : Nat} {Qg : State → Prop} {H : Heap} {locs : List Loc} {ls : Array Slot} {pc : Nat} {r rest : List AV} {f : FF} {a : AA} {i : Nat} {v : Int32}
    (hM : MetU g y cc maxL ret lvc ((.inr (.inr (9, i, 0)) :: r : List AV).map (cv (gAd g))) (some (.int v))) (hk : LnkOK y cc maxL ret n) (hl : Cond.methodLink RX3 idx y ∈ WS) (hi : Cond.instanceMethod y ∈ WS) (hs : Cond.selects RJ0 y y ∈ WS) (hR : lvc + 1 ≤ lvl ∧ maxL ≤ 16) (hi4 : i < 4)
    (hx : p.tables.exec = Jvm.exec) (hb : c.code = cc') (hml : c.maxLocals = nL) (hown : s.vm.findClass RX3 = some m.cls) (hts : ∀ w ∈ WS, w.before args s = true) (hG : gG g s) (hP : gW g f a H) (hS : va_S (gA g) s.heap H locs) (hsz : ls.size = nL) (hc : cats rest ≤ 8) (hlen : r.length = n)
    (hd : decode cc' pc = .ok (.invokevirtual idx, 3)) (hy : y.cls = "java/lang/String")
    (kk : W p (gL g) e (rmL lvl) s m args below meth c H locs 0 0 Qg (F0 m (pc + 3) ls ((.inl v :: rest).map (cv (gAd g))))) :
    W p (gL g) e (rmL lvl) s m args below meth c H locs 0 0 Qg (F0 m pc ls (((.inr (.inr (9, i, 0)) :: r : List AV).reverse ++ rest).map (cv (gAd g)))) := by
  obtain ⟨-, -, ⟨adV, hE⟩, -⟩ := hg.2.2.2.2 s hG
  have cw : CallW (rmL lvl) s args RX3 RJ0 idx y cc maxL ret (Cond.code y cc maxL ret :: WS) (rmL lvc) 0 0 n := ⟨callB_w hk hts hl hR, hts _ hi, hts _ hs⟩
  have hst : (F0 m pc ls ((((Sum.inr (Sum.inr (9, i, 0)) : AV) :: r).reverse ++ rest).map (cv (gAd g)))).stack = (r.map (cv (gAd g))).reverse ++ .ref (gAd g (9, i, 0)) :: rest.map (cv (gAd g)) := by
    show List.map (cv (gAd g)) ((((Sum.inr (Sum.inr (9, i, 0)) : AV) :: r).reverse ++ rest)) = _
    rw [List.reverse_cons, List.append_assoc, List.map_append, List.map_reverse]
    rfl
  exact callU (va_runV (As := r.map (cv (gAd g))) (rest := rest.map (cv (gAd g))) (C := RJ0) ⟨hx, hb, hml, hown, hts⟩ hM cw ⟨PreU_blind hg _, vk_recv hE hi4 hS, PreU_at hg hG hS _⟩ rfl (by rw [List.length_map]; exact hlen) hsz hst (lv_room (by rw [cats_sum]; exact hc)) hd ⟨Nat.zero_le _, Nat.zero_le _⟩) kk
theorem callJ0_length_X3_107 {g : Gm} (hg : GmOK g) {lvl : Nat} (hlv : 2 ≤ lvl) : CallOK g lvl RX3 107 false 1 sJ0_length := by
  intro p e s m args below meth c cc' nL Qg H locs ls pc As rest f a Q hx hb hml hown hts hG hP hS hsz hc hlen hV hd hq kk
  unfold sJ0_length at hq
  split at hq
  · exact callU2 hg (mJ0_length hg hq.1) kJ0_length_8abf5 mlX3_107 qJ0_length_8abf5.1 qJ0_length_8abf5.2 ⟨hlv, by decide⟩ hq.1 hx hb hml hown hts hG hP hS hsz hc rfl hd rfl (kk _ f a H locs hq.2 (fun v h => by cases h; trivial) hP hS)
  · exact hq.elim
theorem callJ0_charAt_X3_112 {g : Gm} (hg : GmOK g) {lvl : Nat} (hlv : 5 ≤ lvl) : CallOK g lvl RX3 112 false 2 sJ0_charAt := by
  intro p e s m args below meth c cc' nL Qg H locs ls pc As rest f a Q hx hb hml hown hts hG hP hS hsz hc hlen hV hd hq kk
  unfold sJ0_charAt at hq
  split at hq
  · obtain ⟨k, h1, rfl, h2, h3⟩ := hq
    exact callU2 hg (mJ0_charAt hg h1 h2) kJ0_charAt_5068e mlX3_112 qJ0_charAt_5068e.1 qJ0_charAt_5068e.2 ⟨hlv, by decide⟩ h1 hx hb hml hown hts hG hP hS hsz hc rfl hd rfl (kk _ f a H locs h3 (fun v h => by cases h; trivial) hP hS)
  · exact hq.elim
