/-! each instruction's clause holds of the machine -/
def Wp (g : Gm) (p : Program) (e : Env) (R : Room) (s : State) (m : MethodId) (args : Array Value) (below : List Frame) (meth : Method) (c : Code) (nL : Nat) (Qg : State → Prop) : XT := fun pc ls st f a =>
  ∀ (H : Heap) (locs : List Loc) (A : Array Slot), gW g f a H → va_S (gA g) s.heap H locs → LV (gAd g) nL ls A → (∀ v ∈ st, vld v) → W p (gL g) e R s m args below meth c H locs 0 0 Qg (F0 m pc A (st.map (cv (gAd g))))
def retOK (rt : Nat) (ret : Option FieldType) : Prop := match rt with
  | 0 => ret = some .int
  | 1 => ret = some .boolean
  | 2 => ret = none
  | 3 => ∃ C, ret = some (.object C)
  | _ => False
def EnvOK (g : Gm) (lvl : Nat) (own : String) (cc : ByteArray) (ret : Option FieldType) (E : En) : Prop :=
  okT cc E.1 = true ∧ (∀ idx b n sp, as2 E.2.1 idx = some (b, n, sp) → CallOK g lvl own idx b n sp) ∧ (∀ idx t k, as2 E.2.2.1 idx = some (t, k) → FldOK own idx t k) ∧ (∀ idx v, as2 E.2.2.2.1 idx = some v → CstOK g own idx v ∧ vld v) ∧ retOK E.2.2.2.2 ret
theorem lkc_mem : ∀ {T : List Et} {pc : Nat} {e : Et}, lkc T pc = some e → e ∈ T ∧ e.1 = pc
  | [], _, _, h => by cases h
  | x :: r, pc, e, h => by
    unfold lkc at h
    cases hb : Nat.beq x.1 pc with
    | true =>
      rw [hb] at h
      cases h
      exact ⟨List.mem_cons_self, Nat.eq_of_beq_eq_true hb⟩
    | false =>
      rw [hb] at h
      obtain ⟨h1, h2⟩ := lkc_mem h
      exact ⟨List.mem_cons_of_mem _ h1, h2⟩
theorem lk_mem : ∀ {T : List (Nat × List Et)} {pc : Nat} {e : Et}, lk T pc = some e → ∃ ch ∈ T, e ∈ ch.2 ∧ e.1 = pc
  | [], _, _, h => by cases h
  | x :: r, pc, e, h => by
    unfold lk at h
    cases hb : Nat.ble pc x.1 with
    | true =>
      rw [hb] at h
      exact ⟨x, List.mem_cons_self, lkc_mem h⟩
    | false =>
      rw [hb] at h
      obtain ⟨ch, h1, h2⟩ := lk_mem h
      exact ⟨ch, List.mem_cons_of_mem _ h1, h2⟩
theorem va_lt {v : AV} {r : List AV} (h : ∀ w ∈ v :: r, vld w) : vld v ∧ ∀ w ∈ r, vld w := ⟨h v List.mem_cons_self, fun w hw => h w (List.mem_cons_of_mem _ hw)⟩
theorem va_ad {v : AV} {r : List AV} (hv : vld v) (h : ∀ w ∈ r, vld w) : ∀ w ∈ v :: r, vld w := fun w hw => (List.mem_cons.mp hw).elim (fun e => e ▸ hv) (h w)
theorem popA_ok : ∀ {n : Nat} {acc st : List AV} {k : List AV → List AV → Prop}, popA n acc st k → ∃ As r, k (As ++ acc) r ∧ st = As.reverse ++ r ∧ As.length = n
  | 0, acc, st, k, h => ⟨[], st, h, rfl, rfl⟩
  | n + 1, acc, [], k, h => h.elim
  | n + 1, acc, v :: st, k, h => by
    obtain ⟨As, r, h1, h2, h3⟩ := popA_ok (n := n) h
    refine ⟨As ++ [v], r, by rw [List.append_assoc]; exact h1, ?_, by rw [List.length_append, h3]; rfl⟩
    rw [h2, List.reverse_append]
    rfl
theorem cats_sum (ad : Ky → Nat) : ∀ r : List AV, ((r.map (cv ad)).map fun v => v.category).sum = cats r
  | [] => rfl
  | v :: r => by
    rw [List.map_cons, List.map_cons, List.sum_cons, cv_cat, cats_sum ad r]
    rfl
section Steps
variable {g : Gm} {p : Program} {e : Env} {lvl : Nat} {s : State} {m : MethodId} {args : Array Value} {below : List Frame} {meth : Method} {c : Code} {cc : ByteArray} {nL : Nat} {own : String} {Qg : State → Prop} {Y : XT} {pc nxt tgt len : Nat} {ls : Lcs} {st : List AV} {f : FF} {a : AA}
/-- what holds of the machine all the while -/
def Fx (g : Gm) (p : Program) (s : State) (m : MethodId) (args : Array Value) (c : Code) (cc : ByteArray) (nL : Nat) (own : String) : Prop :=
  p.tables.exec = Jvm.exec ∧ c.code = cc ∧ c.maxLocals = nL ∧ s.vm.findClass own = some m.cls ∧ (∀ w ∈ WS, w.before args s = true) ∧ gG g s
theorem s_ldI (F : Fx g p s m args c cc nL own) (hY : ∀ pc ls st f a, Y pc ls st f a → Wp g p e (rmL lvl) s m args below meth c nL Qg pc ls st f a) {n : Nat} (hd : (∃ k : Fin 4, k.val = n ∧ decode cc pc = .ok (.iload_n k, 1) ∧ nxt = pc + 1) ∨ (decode cc pc = .ok (.iload n, 2) ∧ nxt = pc + 2)) (h : ldI Y n nxt ls st f a) : Wp g p e (rmL lvl) s m args below meth c nL Qg pc ls st f a := by
  intro H locs A hP hS hL hV
  unfold ldI at h
  split at h
  · rename_i x hx
    have hA := (hL.at hx).1
    rcases hd with ⟨k, hk, hd, rfl⟩ | ⟨hd, rfl⟩
    · exact lv_iload_n F.1 F.2.1 hd hk hA (hY _ _ _ _ _ h H locs A hP hS hL (va_ad trivial hV))
    · exact lv_iload F.1 F.2.1 hd hA (hY _ _ _ _ _ h H locs A hP hS hL (va_ad trivial hV))
  · exact h.elim
theorem s_ldL (F : Fx g p s m args c cc nL own) (hY : ∀ pc ls st f a, Y pc ls st f a → Wp g p e (rmL lvl) s m args below meth c nL Qg pc ls st f a) {n : Nat} (hd : (∃ k : Fin 4, k.val = n ∧ decode cc pc = .ok (.lload_n k, 1) ∧ nxt = pc + 1) ∨ (decode cc pc = .ok (.lload n, 2) ∧ nxt = pc + 2)) (h : ldL Y n nxt ls st f a) : Wp g p e (rmL lvl) s m args below meth c nL Qg pc ls st f a := by
  intro H locs A hP hS hL hV
  unfold ldL at h
  split at h
  · rename_i x hx
    have hA := (hL.at hx).1
    rcases hd with ⟨k, hk, hd, rfl⟩ | ⟨hd, rfl⟩
    · exact lv_lload_n F.1 F.2.1 hd hk hA (hY _ _ _ _ _ h H locs A hP hS hL (va_ad trivial hV))
    · exact lv_lload F.1 F.2.1 hd hA (hY _ _ _ _ _ h H locs A hP hS hL (va_ad trivial hV))
  · exact h.elim
theorem s_ldA (F : Fx g p s m args c cc nL own) (hY : ∀ pc ls st f a, Y pc ls st f a → Wp g p e (rmL lvl) s m args below meth c nL Qg pc ls st f a) {n : Nat} (hd : (∃ k : Fin 4, k.val = n ∧ decode cc pc = .ok (.aload_n k, 1) ∧ nxt = pc + 1) ∨ (decode cc pc = .ok (.aload n, 2) ∧ nxt = pc + 2)) (h : ldA Y n nxt ls st f a) : Wp g p e (rmL lvl) s m args below meth c nL Qg pc ls st f a := by
  intro H locs A hP hS hL hV
  unfold ldA at h
  split at h
  · rename_i x hx
    have hA := hL.at hx
    rcases hd with ⟨k, hk, hd, rfl⟩ | ⟨hd, rfl⟩
    · exact lv_aload_n F.1 F.2.1 hd hk hA.1 (hY _ _ _ _ _ h H locs A hP hS hL (va_ad hA.2 hV))
    · exact lv_aload F.1 F.2.1 hd hA.1 (hY _ _ _ _ _ h H locs A hP hS hL (va_ad hA.2 hV))
  · exact h.elim
theorem s_stI (F : Fx g p s m args c cc nL own) (hY : ∀ pc ls st f a, Y pc ls st f a → Wp g p e (rmL lvl) s m args below meth c nL Qg pc ls st f a) {n : Nat} (hd : (∃ k : Fin 4, k.val = n ∧ decode cc pc = .ok (.istore_n k, 1) ∧ nxt = pc + 1) ∨ (decode cc pc = .ok (.istore n, 2) ∧ nxt = pc + 2)) (h : stI Y n nxt ls st f a) : Wp g p e (rmL lvl) s m args below meth c nL Qg pc ls st f a := by
  intro H locs A hP hS hL hV
  unfold stI at h
  split at h
  · rename_i hno hlt
    rw [frc_eq] at h
    obtain ⟨hlen, lv, hl, hm⟩ := hL
    have hn : n < nL := by
      have h1 : Nat.ble (n + 1) ls.length = true := hlt
      have := Nat.le_of_ble_eq_true h1
      omega
    rcases hd with ⟨k, hk, hd, rfl⟩ | ⟨hd, rfl⟩
    · exact lv_istore_n F.1 F.2.1 hd hk hl hn rfl (fun A' hA' => hY _ _ _ _ _ h H locs A' hP hS (LV.set1 hlen hm hno trivial hA') (va_lt hV).2)
    · exact lv_istore F.1 F.2.1 hd hl hn rfl (fun A' hA' => hY _ _ _ _ _ h H locs A' hP hS (LV.set1 hlen hm hno trivial hA') (va_lt hV).2)
  · exact h.elim
theorem s_stA (F : Fx g p s m args c cc nL own) (hY : ∀ pc ls st f a, Y pc ls st f a → Wp g p e (rmL lvl) s m args below meth c nL Qg pc ls st f a) {n : Nat} (hd : (∃ k : Fin 4, k.val = n ∧ decode cc pc = .ok (.astore_n k, 1) ∧ nxt = pc + 1) ∨ (decode cc pc = .ok (.astore n, 2) ∧ nxt = pc + 2)) (h : stA Y n nxt ls st f a) : Wp g p e (rmL lvl) s m args below meth c nL Qg pc ls st f a := by
  intro H locs A hP hS hL hV
  unfold stA at h
  split at h
  · rename_i hno hlt
    rw [frc_eq] at h
    obtain ⟨hlen, lv, hl, hm⟩ := hL
    have hn : n < nL := by
      have h1 : Nat.ble (n + 1) ls.length = true := hlt
      have := Nat.le_of_ble_eq_true h1
      omega
    rcases hd with ⟨k, hk, hd, rfl⟩ | ⟨hd, rfl⟩
    · exact lv_astore_n F.1 F.2.1 hd hk hl hn rfl (fun A' hA' => hY _ _ _ _ _ h H locs A' hP hS (LV.set1 hlen hm hno (va_lt hV).1 hA') (va_lt hV).2)
    · exact lv_astore F.1 F.2.1 hd hl hn rfl (fun A' hA' => hY _ _ _ _ _ h H locs A' hP hS (LV.set1 hlen hm hno (va_lt hV).1 hA') (va_lt hV).2)
  · exact h.elim
theorem s_inc (F : Fx g p s m args c cc nL own) (hY : ∀ pc ls st f a, Y pc ls st f a → Wp g p e (rmL lvl) s m args below meth c nL Qg pc ls st f a) {n : Nat} {z : Int} {iv : Int32} (hd : decode cc pc = .ok (.iinc n z, 3) ∧ nxt = pc + 3) (hz : Int32.ofInt z = iv) (h : incX Y n iv nxt ls st f a) : Wp g p e (rmL lvl) s m args below meth c nL Qg pc ls st f a := by
  intro H locs A hP hS hL hV
  unfold incX at h
  split at h
  · rename_i x hx hno
    rw [frc_eq] at h
    obtain ⟨hlen, lv, hl, hm⟩ := hL
    have hn : n < nL := by
      have := lget_lt hx
      omega
    obtain ⟨k, hk⟩ := List.getElem?_of_mem (hm n _ hx).1
    obtain ⟨hd, rfl⟩ := hd
    exact lv_iinc F.1 F.2.1 hd hl hk (by rw [hz]) hn rfl (fun A' hA' => hY _ _ _ _ _ h H locs A' hP hS (LV.set1 hlen hm hno trivial hA') hV)
  · exact h.elim
theorem s_stL (F : Fx g p s m args c cc nL own) (hY : ∀ pc ls st f a, Y pc ls st f a → Wp g p e (rmL lvl) s m args below meth c nL Qg pc ls st f a) {n : Nat} (hd : decode cc pc = .ok (.lstore n, 2) ∧ nxt = pc + 2) (h : stL Y n nxt ls st f a) : Wp g p e (rmL lvl) s m args below meth c nL Qg pc ls st f a := by
  intro H locs A hP hS hL hV
  unfold stL at h
  split at h
  · rename_i hno hlt
    rw [frc_eq] at h
    obtain ⟨hlen, lv, hl, hm⟩ := hL
    have hn : n + 1 < nL := by
      have h1 : Nat.ble (n + 1 + 1) ls.length = true := hlt
      have := Nat.le_of_ble_eq_true h1
      omega
    obtain ⟨hd, rfl⟩ := hd
    refine lv_lstore F.1 F.2.1 hd hl hn rfl (fun A' hA' => hY _ _ _ _ _ h H locs A' hP hS ?_ (va_lt hV).2)
    refine ⟨by rw [lset_len, lset_len, hlen], _, hA', fun j w hj => ?_⟩
    by_cases h1 : j = n + 1
    · subst h1
      rcases lget_set_eq _ _ _ hj with q | q <;> cases q
    · rw [lget_set_ne _ _ h1] at hj
      by_cases h2 : j = n
      · subst h2
        rcases lget_set_eq _ _ _ hj with q | q
        · cases q
        · cases q
          exact ⟨List.mem_cons_self, trivial⟩
      · rw [lget_set_ne _ _ h2] at hj
        refine ⟨List.mem_cons_of_mem _ (List.mem_filter.mpr ⟨(hm j w hj).1, ?_⟩), (hm j w hj).2⟩
        have h4 : (j + 1 == n && (cv (gAd g) w).category == 2) = false := by
          by_cases hq : j + 1 = n
          · subst hq
            rw [cv_cat]
            have h3 : (match lget ls j with
              | some (.inr (.inl _)) => false
              | _ => true) = true := hno
            rw [hj] at h3
            rcases w with x | x | k
            · simp [cat1]
            · cases h3
            · simp [cat1]
          · simp [hq]
        have h5 : (j == n) = false := by simp [h2]
        have h6 : (j == n + 1) = false := by simp [h1]
        simp only [h4, h5, h6, Bool.not_false, Bool.and_self]
  · exact h.elim
end Steps
