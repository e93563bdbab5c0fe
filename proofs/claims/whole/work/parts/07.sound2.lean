section Sound
variable {g : Gm} {p : Program} {e : Env} {lvl : Nat} {s : State} {m : MethodId} {args : Array Value} {below : List Frame} {meth : Method} {c : Code} {cc : ByteArray} {nL : Nat} {own : String} {ret : Option FieldType} {E : En} {post : PT} {Y : XT} {pc : Nat} {ls : Lcs} {st : List AV} {f : FF} {a : AA}
theorem allT_ok {x : Int32} {P : Nat → Prop} : ∀ {ts : List Nat} {j : Nat} {lo : Int}, allT x P ts j lo → ∀ (k t : Nat), ts[k]? = some t → x.toInt = lo + ((j + k : Nat) : Int) → P t
  | [], _, _, _, _, _, h, _ => by cases h
  | t :: ts, j, lo, h, 0, t', hk, hx => by
    cases hk
    exact h.1 hx
  | t :: ts, j, lo, h, k + 1, t', hk, hx => allT_ok (ts := ts) h.2 k t' hk (by rw [hx]; congr 1; omega)
set_option maxHeartbeats 4000000 in
theorem ins_ok (hg : GmOK g) (F : Fx g p s m args c cc nL own) (hE : EnvOK g lvl own cc ret E) (hr : meth.sig.returnType = ret) (hlocks : meth.locks = false)
    (hY : ∀ pc ls st f a, Y pc ls st f a → Wp g p e (rmL lvl) s m args below meth c nL (MQ below (PostC g post) args s 0 0 (gA g)) pc ls st f a)
    {i : Instr} {len nxt tgt : Nat} {ts : List Nat} {iv : Int32} (hd : decode cc pc = .ok (i, len)) (hlen : lenI i = 0 ∨ lenI i = len) (hn : nxt = pc + len) (hj : ∀ o, jmpI i = some o → (pc : Int) + o = (tgt : Int)) (hnum : ∀ v, numI i = some v → v = iv) (hsz : szI i = true) (hsw : (swI i).map (fun o => (pc : Int) + o) = ts.map (fun (t : Nat) => (t : Int)))
    (h : ins E post Y i nxt tgt ts iv ls st f a) : Wp g p e (rmL lvl) s m args below meth c nL (MQ below (PostC g post) args s 0 0 (gA g)) pc ls st f a := by
  have L1 : ∀ n, lenI i = n + 1 → len = n + 1 := fun n hn1 => hlen.elim (fun q => by omega) (fun q => by omega)
  cases i with
  | iconst n =>
    obtain rfl := L1 0 rfl
    subst hn
    intro H locs A hP hS hL hV
    exact lv_iconst F.1 F.2.1 hd (hnum _ rfl) (hY _ _ _ _ _ h H locs A hP hS hL (va_ad trivial hV))
  | bipush n =>
    obtain rfl := L1 1 rfl
    subst hn
    intro H locs A hP hS hL hV
    exact lv_bipush F.1 F.2.1 hd (hnum _ rfl) (hY _ _ _ _ _ h H locs A hP hS hL (va_ad trivial hV))
  | sipush n =>
    obtain rfl := L1 2 rfl
    subst hn
    intro H locs A hP hS hL hV
    exact lv_sipush F.1 F.2.1 hd (hnum _ rfl) (hY _ _ _ _ _ h H locs A hP hS hL (va_ad trivial hV))
  | lconst n =>
    obtain rfl := L1 0 rfl
    subst hn
    intro H locs A hP hS hL hV
    exact lv_lconst F.1 F.2.1 hd rfl (hY _ _ _ _ _ h H locs A hP hS hL (va_ad trivial hV))
  | ldc n =>
    intro H locs A hP hS hL hV
    subst hn
    have hc := hE.2.2.2.1 n
    simp only [ins, ldcX] at h
    split at h
    · rename_i x hx
      exact (hc _ hx).1 p e _ s m args below meth c cc _ H locs A pc len _ _ F.1 F.2.1 F.2.2.2.1 F.2.2.2.2.1 F.2.2.2.2.2 hS hd (L1 1 rfl) (Or.inl rfl) (hY _ _ _ _ _ h H locs A hP hS hL (va_ad (hc _ hx).2 hV))
    · rename_i x hx
      exact (hc _ hx).1 p e _ s m args below meth c cc _ H locs A pc len _ _ F.1 F.2.1 F.2.2.2.1 F.2.2.2.2.1 F.2.2.2.2.2 hS hd (L1 1 rfl) rfl (hY _ _ _ _ _ h H locs A hP hS hL (va_ad (hc _ hx).2 hV))
    · exact h.elim
  | ldc_w n =>
    intro H locs A hP hS hL hV
    subst hn
    have hc := hE.2.2.2.1 n
    simp only [ins, ldwX] at h
    split at h
    · rename_i x hx
      exact (hc _ hx).1 p e _ s m args below meth c cc _ H locs A pc len _ _ F.1 F.2.1 F.2.2.2.1 F.2.2.2.2.1 F.2.2.2.2.2 hS hd (L1 2 rfl) (Or.inr rfl) (hY _ _ _ _ _ h H locs A hP hS hL (va_ad (hc _ hx).2 hV))
    · exact h.elim
  | ldc2_w n =>
    intro H locs A hP hS hL hV
    subst hn
    have hc := hE.2.2.2.1 n
    simp only [ins, ld2X] at h
    split at h
    · rename_i x hx
      exact (hc _ hx).1 p e _ s m args below meth c cc _ H locs A pc len _ _ F.1 F.2.1 F.2.2.2.1 F.2.2.2.2.1 F.2.2.2.2.2 hS hd (L1 2 rfl) rfl (hY _ _ _ _ _ h H locs A hP hS hL (va_ad (hc _ hx).2 hV))
    · exact h.elim
  | iload_n n => obtain rfl := L1 0 rfl; exact s_ldI F hY (Or.inl ⟨n, rfl, hd, hn⟩) h
  | iload n => obtain rfl := L1 1 rfl; exact s_ldI F hY (Or.inr ⟨hd, hn⟩) h
  | lload_n n => obtain rfl := L1 0 rfl; exact s_ldL F hY (Or.inl ⟨n, rfl, hd, hn⟩) h
  | lload n => obtain rfl := L1 1 rfl; exact s_ldL F hY (Or.inr ⟨hd, hn⟩) h
  | aload_n n => obtain rfl := L1 0 rfl; exact s_ldA F hY (Or.inl ⟨n, rfl, hd, hn⟩) h
  | aload n => obtain rfl := L1 1 rfl; exact s_ldA F hY (Or.inr ⟨hd, hn⟩) h
  | istore_n n => obtain rfl := L1 0 rfl; exact s_stI F hY (Or.inl ⟨n, rfl, hd, hn⟩) h
  | istore n => obtain rfl := L1 1 rfl; exact s_stI F hY (Or.inr ⟨hd, hn⟩) h
  | astore_n n => obtain rfl := L1 0 rfl; exact s_stA F hY (Or.inl ⟨n, rfl, hd, hn⟩) h
  | astore n => obtain rfl := L1 1 rfl; exact s_stA F hY (Or.inr ⟨hd, hn⟩) h
  | lstore n => obtain rfl := L1 1 rfl; exact s_stL F hY ⟨hd, hn⟩ h
  | iinc n z => obtain rfl := L1 2 rfl; exact s_inc F hY ⟨hd, hn⟩ (hnum _ rfl) h
  | getfield n => obtain rfl := L1 2 rfl; exact s_getF hg F hY (fun t k q => hE.2.2.1 n t k q) ⟨hd, hn⟩ h
  | putfield n => obtain rfl := L1 2 rfl; exact s_putF hg F hY (fun t k q => hE.2.2.1 n t k q) ⟨hd, hn⟩ h
  | iaload => obtain rfl := L1 0 rfl; exact s_iald hg F hY ⟨hd, hn⟩ h
  | baload => obtain rfl := L1 0 rfl; exact s_bald hg F hY ⟨hd, hn⟩ h
  | aaload => obtain rfl := L1 0 rfl; exact s_aald hg F hY ⟨hd, hn⟩ h
  | arraylength => obtain rfl := L1 0 rfl; exact s_alen hg F hY ⟨hd, hn⟩ h
  | iastore => obtain rfl := L1 0 rfl; exact s_iast hg F hY ⟨hd, hn⟩ h
  | bastore => obtain rfl := L1 0 rfl; exact s_bast hg F hY ⟨hd, hn⟩ h
  | invokevirtual n => obtain rfl := L1 2 rfl; exact s_call (b := false) F hY (fun b k sp q => hE.2.1 n b k sp q) ⟨hd, hn⟩ h
  | invokestatic n => obtain rfl := L1 2 rfl; exact s_call (b := true) F hY (fun b k sp q => hE.2.1 n b k sp q) ⟨hd, hn⟩ h
  | goto o =>
    intro H locs A hP hS hL hV
    obtain rfl := L1 2 rfl
    exact lv_goto F.1 F.2.1 hd (hj _ rfl) (hY _ _ _ _ _ h H locs A hP hS hL hV)
  | ifCond cn o =>
    intro H locs A hP hS hL hV
    obtain rfl := L1 2 rfl
    subst hn
    simp only [ins, br1] at h
    split at h
    · exact lv_if_eq F.1 F.2.1 hd (hj _ rfl) (fun q => hY _ _ _ _ _ (h.1 q) H locs A hP hS hL (va_lt hV).2) (fun q => hY _ _ _ _ _ (h.2 q) H locs A hP hS hL (va_lt hV).2)
    · exact lv_if_ne F.1 F.2.1 hd (hj _ rfl) (fun q => hY _ _ _ _ _ (h.1 q) H locs A hP hS hL (va_lt hV).2) (fun q => hY _ _ _ _ _ (h.2 q) H locs A hP hS hL (va_lt hV).2)
    · exact lv_if_lt F.1 F.2.1 hd (hj _ rfl) (fun q => hY _ _ _ _ _ (h.1 q) H locs A hP hS hL (va_lt hV).2) (fun q => hY _ _ _ _ _ (h.2 q) H locs A hP hS hL (va_lt hV).2)
    · exact lv_if_ge F.1 F.2.1 hd (hj _ rfl) (fun q => hY _ _ _ _ _ (h.1 q) H locs A hP hS hL (va_lt hV).2) (fun q => hY _ _ _ _ _ (h.2 q) H locs A hP hS hL (va_lt hV).2)
    · exact lv_if_gt F.1 F.2.1 hd (hj _ rfl) (fun q => hY _ _ _ _ _ (h.1 q) H locs A hP hS hL (va_lt hV).2) (fun q => hY _ _ _ _ _ (h.2 q) H locs A hP hS hL (va_lt hV).2)
    · exact lv_if_le F.1 F.2.1 hd (hj _ rfl) (fun q => hY _ _ _ _ _ (h.1 q) H locs A hP hS hL (va_lt hV).2) (fun q => hY _ _ _ _ _ (h.2 q) H locs A hP hS hL (va_lt hV).2)
    · exact h.elim
  | if_icmp cn o =>
    intro H locs A hP hS hL hV
    obtain rfl := L1 2 rfl
    subst hn
    simp only [ins, br2] at h
    split at h
    · exact lv_icmp_eq F.1 F.2.1 hd (hj _ rfl) (fun q => hY _ _ _ _ _ (h.1 q) H locs A hP hS hL (va_lt (va_lt hV).2).2) (fun q => hY _ _ _ _ _ (h.2 q) H locs A hP hS hL (va_lt (va_lt hV).2).2)
    · exact lv_icmp_ne F.1 F.2.1 hd (hj _ rfl) (fun q => hY _ _ _ _ _ (h.1 q) H locs A hP hS hL (va_lt (va_lt hV).2).2) (fun q => hY _ _ _ _ _ (h.2 q) H locs A hP hS hL (va_lt (va_lt hV).2).2)
    · exact lv_icmp_lt F.1 F.2.1 hd (hj _ rfl) (fun q => hY _ _ _ _ _ (h.1 q) H locs A hP hS hL (va_lt (va_lt hV).2).2) (fun q => hY _ _ _ _ _ (h.2 q) H locs A hP hS hL (va_lt (va_lt hV).2).2)
    · exact lv_icmp_ge F.1 F.2.1 hd (hj _ rfl) (fun q => hY _ _ _ _ _ (h.1 q) H locs A hP hS hL (va_lt (va_lt hV).2).2) (fun q => hY _ _ _ _ _ (h.2 q) H locs A hP hS hL (va_lt (va_lt hV).2).2)
    · exact lv_icmp_gt F.1 F.2.1 hd (hj _ rfl) (fun q => hY _ _ _ _ _ (h.1 q) H locs A hP hS hL (va_lt (va_lt hV).2).2) (fun q => hY _ _ _ _ _ (h.2 q) H locs A hP hS hL (va_lt (va_lt hV).2).2)
    · exact lv_icmp_le F.1 F.2.1 hd (hj _ rfl) (fun q => hY _ _ _ _ _ (h.1 q) H locs A hP hS hL (va_lt (va_lt hV).2).2) (fun q => hY _ _ _ _ _ (h.2 q) H locs A hP hS hL (va_lt (va_lt hV).2).2)
    · exact h.elim
  | tableswitch d lo hi o =>
    intro H locs A hP hS hL hV
    simp only [ins] at h
    split at h
    · rename_i x r
      have V := (va_lt hV).2
      by_cases h1 : x.toInt < lo ∨ hi < x.toInt
      · exact lv_tableOut F.1 F.2.1 hd h1 (hj _ rfl) (hY _ _ _ _ _ (h.2 h1) H locs A hP hS hL V)
      · have e1 : ¬ x.toInt < lo := fun q => h1 (Or.inl q)
        have e2 : ¬ hi < x.toInt := fun q => h1 (Or.inr q)
        have e3 : hi - lo + 1 = (o.toList.length : Int) := of_decide_eq_true hsz
        have hk : (x.toInt - lo).toNat < o.toList.length := by omega
        have ho : o[(x.toInt - lo).toNat]? = some o.toList[(x.toInt - lo).toNat] := by
          rw [← Array.getElem?_toList, List.getElem?_eq_getElem hk]
        have hsw' : o.toList.map (fun o => (pc : Int) + o) = ts.map (fun (t : Nat) => (t : Int)) := hsw
        have e4 : (o.toList.map (fun o => (pc : Int) + o))[(x.toInt - lo).toNat]? = some ((pc : Int) + o.toList[(x.toInt - lo).toNat]) := by
          rw [List.getElem?_map, List.getElem?_eq_getElem hk]; rfl
        rw [hsw', List.getElem?_map] at e4
        cases hts : ts[(x.toInt - lo).toNat]? with
        | none => rw [hts] at e4; cases e4
        | some t =>
          rw [hts] at e4
          have e5 : (pc : Int) + o.toList[(x.toInt - lo).toNat] = (t : Int) := (Option.some.inj e4).symm
          exact lv_tableIn F.1 F.2.1 hd e1 e2 ho e5 (hY _ _ _ _ _ (allT_ok h.1 _ t hts (by rw [Nat.zero_add]; omega)) H locs A hP hS hL V)
    · exact h.elim
  | ireturn =>
    intro H locs A hP hS hL hV
    obtain rfl := L1 0 rfl
    have hro := hE.2.2.2.2
    simp only [ins, retI] at h
    split at h
    · rename_i x hrt
      rw [hrt] at hro
      exact W.iret F.1 F.2.1 (hr.trans hro) (fun t ht hW => ⟨⟨some (.inl x), f, a, rfl, h, fun v hv => by cases hv; trivial, by rw [ht]; exact hP⟩, hS.F ht⟩) hS.2.2 hd hlocks
    · rename_i x hrt
      rw [hrt] at hro
      exact W.zret F.1 F.2.1 (hr.trans hro) (nar_bool h.1) (fun t ht hW => ⟨⟨some (.inl x), f, a, rfl, h.2, fun v hv => by cases hv; trivial, by rw [ht]; exact hP⟩, hS.F ht⟩) hS.2.2 hd hlocks
    · exact h.elim
  | return_ =>
    intro H locs A hP hS hL hV
    obtain rfl := L1 0 rfl
    have hro := hE.2.2.2.2
    simp only [ins, retV] at h
    split at h
    · rename_i hrt
      rw [hrt] at hro
      exact W.vret F.1 F.2.1 (hr.trans hro) (fun t ht hW => ⟨⟨none, f, a, rfl, h, (fun v hv => by cases hv), by rw [ht]; exact hP⟩, hS.F ht⟩) hS.2.2 hd hlocks
    · exact h.elim
  | areturn =>
    intro H locs A hP hS hL hV
    obtain rfl := L1 0 rfl
    have hro := hE.2.2.2.2
    simp only [ins, retA] at h
    split at h
    · rename_i k hrt
      rw [hrt] at hro
      obtain ⟨C, hC⟩ := hro
      exact W.aret F.1 F.2.1 (hr.trans hC) (Or.inl ⟨C, rfl⟩) (Or.inr ⟨_, rfl⟩) (fun t ht hW => ⟨⟨some (.inr (.inr k)), f, a, rfl, h, fun v hv => by cases hv; exact (va_lt hV).1, by rw [ht]; exact hP⟩, hS.F ht⟩) hS.2.2 hd hlocks
    · exact h.elim
  | iadd | isub | imul | iand | ior | ixor | ishl | ishr | iushr =>
    intro H locs A hP hS hL hV
    obtain rfl := L1 0 rfl
    subst hn
    simp only [ins, op2] at h
    split at h
    · have K := hY _ _ _ _ _ h H locs A hP hS hL (va_ad trivial (va_lt (va_lt hV).2).2)
      first
        | exact lv_iadd F.1 F.2.1 hd K
        | exact lv_isub F.1 F.2.1 hd K
        | exact lv_imul F.1 F.2.1 hd K
        | exact lv_iand F.1 F.2.1 hd K
        | exact lv_ior F.1 F.2.1 hd K
        | exact lv_ixor F.1 F.2.1 hd K
        | exact lv_ishl F.1 F.2.1 hd K
        | exact lv_ishr F.1 F.2.1 hd K
        | exact lv_iushr F.1 F.2.1 hd rfl K
    · exact h.elim
  | idiv | irem =>
    intro H locs A hP hS hL hV
    obtain rfl := L1 0 rfl
    subst hn
    simp only [ins, dv2] at h
    split at h
    · have K := hY _ _ _ _ _ h.2 H locs A hP hS hL (va_ad trivial (va_lt (va_lt hV).2).2)
      first
        | exact lv_idiv F.1 F.2.1 hd h.1 K
        | exact lv_irem F.1 F.2.1 hd h.1 K
    · exact h.elim
  | i2b | i2s =>
    intro H locs A hP hS hL hV
    obtain rfl := L1 0 rfl
    subst hn
    simp only [ins, op1] at h
    split at h
    · have K := hY _ _ _ _ _ h H locs A hP hS hL (va_ad trivial (va_lt hV).2)
      first
        | exact lv_i2b F.1 F.2.1 hd rfl K
        | exact lv_i2s F.1 F.2.1 hd rfl K
    · exact h.elim
  | i2l =>
    intro H locs A hP hS hL hV
    obtain rfl := L1 0 rfl
    subst hn
    simp only [ins] at h
    split at h
    · exact lv_i2l F.1 F.2.1 hd rfl (hY _ _ _ _ _ h H locs A hP hS hL (va_ad trivial (va_lt hV).2))
    · exact h.elim
  | ladd =>
    intro H locs A hP hS hL hV
    obtain rfl := L1 0 rfl
    subst hn
    simp only [ins] at h
    split at h
    · exact lv_ladd F.1 F.2.1 hd (hY _ _ _ _ _ h H locs A hP hS hL (va_ad trivial (va_lt (va_lt hV).2).2))
    · exact h.elim
  | lcmp =>
    intro H locs A hP hS hL hV
    obtain rfl := L1 0 rfl
    subst hn
    simp only [ins] at h
    split at h
    · exact W.lcmp F.1 F.2.1 hd (hY _ _ _ _ _ h H locs A hP hS hL (va_ad trivial (va_lt (va_lt hV).2).2))
    · exact h.elim
  | dup =>
    intro H locs A hP hS hL hV
    obtain rfl := L1 0 rfl
    subst hn
    simp only [ins, dupX] at h
    split at h
    · exact lv_dup F.1 F.2.1 hd rfl (hY _ _ _ _ _ h H locs A hP hS hL (va_ad trivial hV))
    · exact lv_dup F.1 F.2.1 hd rfl (hY _ _ _ _ _ h H locs A hP hS hL (va_ad (va_lt hV).1 hV))
    · exact h.elim
  | dup2 =>
    intro H locs A hP hS hL hV
    obtain rfl := L1 0 rfl
    subst hn
    simp only [ins, dp2X] at h
    split at h
    · exact lv_dup2_11 F.1 F.2.1 hd rfl rfl (hY _ _ _ _ _ h H locs A hP hS hL (va_ad trivial (va_ad (va_lt (va_lt hV).2).1 hV)))
    · exact h.elim
  | pop =>
    intro H locs A hP hS hL hV
    obtain rfl := L1 0 rfl
    subst hn
    simp only [ins] at h
    split at h
    · exact lv_pop F.1 F.2.1 hd rfl (hY _ _ _ _ _ h H locs A hP hS hL (va_lt hV).2)
    · exact h.elim
  | _ => exact False.elim h
theorem stp_ok (hg : GmOK g) (F : Fx g p s m args c cc nL own) (hE : EnvOK g lvl own cc ret E) (hr : meth.sig.returnType = ret) (hlocks : meth.locks = false)
    (hY : ∀ pc ls st f a, Y pc ls st f a → Wp g p e (rmL lvl) s m args below meth c nL (MQ below (PostC g post) args s 0 0 (gA g)) pc ls st f a)
    (h : stp E post Y pc ls st f a) : Wp g p e (rmL lvl) s m args below meth c nL (MQ below (PostC g post) args s 0 0 (gA g)) pc ls st f a := by
  unfold stp at h
  split at h
  · rename_i pc' i len nxt tgt ts iv hen
    obtain ⟨ch, h1, h2, h3⟩ := lk_mem hen
    have h4 := List.all_eq_true.mp (List.all_eq_true.mp hE.1 ch h1) _ h2
    dsimp only at h3
    unfold okE at h4
    simp only [Bool.and_eq_true, Bool.or_eq_true, decide_eq_true_eq] at h4
    obtain ⟨⟨⟨⟨⟨⟨a1, a2⟩, a3⟩, a4⟩, a5⟩, a6⟩, a7⟩ := h4
    rw [h3] at a1 a3 a4 a6
    refine ins_ok hg F hE hr hlocks hY a1 (a2.elim (fun q => Or.inl (Nat.eq_of_beq_eq_true q)) (fun q => Or.inr (Nat.eq_of_beq_eq_true q))) (Nat.eq_of_beq_eq_true a3) (fun o ho => ?_) (fun v hv => ?_) a7 a6 h
    · rw [ho] at a4
      exact of_decide_eq_true a4
    · rw [hv] at a5
      exact of_decide_eq_true a5
  · exact h.elim
theorem sym_ok (hg : GmOK g) (F : Fx g p s m args c cc nL own) (hE : EnvOK g lvl own cc ret E) (hr : meth.sig.returnType = ret) (hlocks : meth.locks = false) (B : List Nat) :
    ∀ (n pc : Nat) (ls : Lcs) (st : List AV) (f : FF) (a : AA), sym E post (Wp g p e (rmL lvl) s m args below meth c nL (MQ below (PostC g post) args s 0 0 (gA g))) B n pc ls st f a → Wp g p e (rmL lvl) s m args below meth c nL (MQ below (PostC g post) args s 0 0 (gA g)) pc ls st f a
  | 0, _, _, _, _, _, h => h
  | n + 1, pc, ls, st, f, a, h => by
    refine stp_ok hg F hE hr hlocks (fun pc' ls' st' f' a' q => ?_) h
    cases hb : inB B pc' with
    | true => rw [hb] at q; exact q
    | false => rw [hb] at q; exact sym_ok hg F hE hr hlocks B n pc' ls' st' f' a' q
end Sound
theorem ent_args (ad : Ky → Nat) : ∀ (av : List AV) (k j : Nat) (v : AV), lget (ent av) j = some v → (k + j, cv ad v) ∈ lv_args k (av.map (cv ad)) ∧ v ∈ av
  | [], _, _, _, h => by cases h
  | .inl x :: r, k, 0, v, h => by
    cases h
    exact ⟨List.mem_cons_self, List.mem_cons_self⟩
  | .inl x :: r, k, j + 1, v, h => by
    obtain ⟨h1, h2⟩ := ent_args ad r (k + 1) j v h
    refine ⟨?_, List.mem_cons_of_mem _ h2⟩
    rw [show k + (j + 1) = k + 1 + j by omega]
    exact List.mem_cons_of_mem _ h1
  | .inr (.inr x) :: r, k, 0, v, h => by
    cases h
    exact ⟨List.mem_cons_self, List.mem_cons_self⟩
  | .inr (.inr x) :: r, k, j + 1, v, h => by
    obtain ⟨h1, h2⟩ := ent_args ad r (k + 1) j v h
    refine ⟨?_, List.mem_cons_of_mem _ h2⟩
    rw [show k + (j + 1) = k + 1 + j by omega]
    exact List.mem_cons_of_mem _ h1
  | .inr (.inl x) :: r, k, 0, v, h => by
    cases h
    exact ⟨List.mem_cons_self, List.mem_cons_self⟩
  | .inr (.inl x) :: r, k, 1, v, h => by cases h
  | .inr (.inl x) :: r, k, j + 2, v, h => by
    obtain ⟨h1, h2⟩ := ent_args ad r (k + 2) j v h
    refine ⟨?_, List.mem_cons_of_mem _ h2⟩
    rw [show k + (j + 2) = k + 2 + j by omega]
    exact List.mem_cons_of_mem _ h1
theorem padL_len : ∀ (n : Nat) (ls : Lcs), (padL n ls).length = n
  | 0, _ => rfl
  | n + 1, [] => congrArg (· + 1) (padL_len n [])
  | n + 1, _ :: r => congrArg (· + 1) (padL_len n r)
theorem padL_get : ∀ (n : Nat) (ls : Lcs) (j : Nat) (v : AV), lget (padL n ls) j = some v → lget ls j = some v
  | 0, _, _, _, h => by cases h
  | n + 1, [], 0, _, h => by cases h
  | n + 1, [], j + 1, v, h => padL_get n [] j v h
  | n + 1, _ :: _, 0, _, h => h
  | n + 1, _ :: r, j + 1, v, h => padL_get n r j v h
theorem ws_good : ∀ w ∈ WS, (w.onTables && w.keeps) = true ∨ ∃ ty, w = .arrayClass ty := fun w h => good_of_word (List.mem_filter.mp h).2
/-- a contract out of a run of the abstract machine -/
theorem MetC_of {g : Gm} (hg : GmOK g) {y : MethodName} {cc : ByteArray} {maxL : Nat} {ret : Option FieldType} {lvl : Nat} {sp : SP} (E : En) (hE : EnvOK g lvl y.cls cc ret E) (hy : plainName y.cls = true) (hsl : ∀ av f a post, sp av f a post → (lg_sl (av.map (cv (gAd g)))).length ≤ maxL)
    (h : ∀ (av : List AV) (f : FF) (a : AA) (post : PT), sp av f a post → ∀ X : XT, Clo E post X → X 0 (padL maxL (ent av)) [] f a) : MetC g y cc maxL ret lvl sp := by
  intro av f a post hav hsp
  refine Met.ofW (cc := cc) (maxL := maxL) (ret := ret) hy rfl ?_
  intro p e s m args below meth c s₁ B hml hv
  obtain ⟨rfl, hP, hG⟩ := hv
  have hts := atoms_spec (ws := Cond.code y cc maxL ret :: WS) B.pre
  have F : Fx g p s m (av.map (cv (gAd g))).toArray c cc maxL y.cls := ⟨B.exec, B.bytes, hml, findClass_of_methodNamed B.named, fun w hw => hts w (List.mem_cons_of_mem _ hw), hG⟩
  have hl := lv_entry (av.map (cv (gAd g))) (n := maxL) (hsl av f a post hsp)
  rw [lg_entry_eq]
  refine h av f a post hsp (Wp g p e (rmL lvl) s m _ below meth c maxL (MQ below (PostC g post) _ s 0 0 (gA g))) (fun Bs n pc ls st f a hh => sym_ok hg F hE B.returns B.notSynchronized Bs n pc ls st f a hh) s.heap [] _ hP va_S.rf ?_ (fun v hv => by cases hv)
  refine ⟨padL_len _ _, _, hl, fun j v hj => ?_⟩
  obtain ⟨h1, h2⟩ := ent_args (gAd g) av 0 j v (padL_get _ _ _ _ hj)
  rw [Nat.zero_add] at h1
  exact ⟨h1, hav v h2⟩
theorem PreC_blind {g : Gm} (hg : GmOK g) (av : List AV) (f : FF) (a : AA) : FrameBlind (PreC g av f a) := fun _ U fr mk q => ⟨q.1, q.2.1, hg.2.2.2.1 U (U.calling fr mk _) (State.WarmedH.refl U) (Nat.le_refl _) (fun _ _ _ => rfl) q.2.2⟩
section Calls2
variable {g : Gm} {p : Program} {e : Env} {lvl : Nat} {s : State} {m : MethodId} {args : Array Value} {below : List Frame} {meth : Method} {c : Code} {cc : ByteArray} {nL : Nat} {own : String} {Qg : State → Prop}
/-- behind a call that keeps a contract -/
theorem callC {H : Heap} {locs : List Loc} {ls : Array Slot} {pc : Nat} {st0 : List Value} {rest : List Value} {Q : PT} {av : Array Value}
    (hr : va_Run p (gL g) e (rmL lvl) s m args below meth c H locs 0 0 0 0 (F0 m pc ls st0) rest (PostC g Q av) (gA g)) (hS : va_S (gA g) s.heap H locs)
    (kk : ∀ (r : Option AV) (f' : FF) (a' : AA) (H1 : Heap) (locs1 : List Loc), Q r f' a' → (∀ v, r = some v → vld v) → gW g f' a' H1 → va_S (gA g) s.heap H1 locs1 → W p (gL g) e (rmL lvl) s m args below meth c H1 locs1 0 0 Qg (F0 m (pc + 3) ls ((r.map (cv (gAd g))).toList ++ rest))) : W p (gL g) e (rmL lvl) s m args below meth c H locs 0 0 Qg (F0 m pc ls st0) := by
  intro T hT X
  obtain ⟨v, st₀, t, T', L, h0, X', hL, e1, e2, ⟨⟨r, f', a', hv, hq, hr, hw⟩, hz, hk⟩, st⟩ := hr T hT X
  cases hv
  rw [h0] at hz hk
  rw [← e1] at hw
  obtain ⟨t2, a1, b1⟩ := kk r f' a' T'.heap (locs ++ L) hq hr hw
    ⟨Nat.le_trans hS.1 (by rw [e1]; exact hz), fun q h1 h2 => by rw [e1, hk q (Nat.lt_of_lt_of_le h1 hS.1) h2]; exact hS.2.1 q h1 h2, fun q hq => by
      rcases List.mem_append.mp hq with h | h
      · exact hS.2.2 q h
      · exact hL q h⟩ T' rfl X'
  exact ⟨t2, st t2 a1, b1⟩
end Calls2
/-- what the tables say of a method that is called -/
def LnkOK (y : MethodName) (cc : ByteArray) (maxL : Nat) (ret : Option FieldType) (n : Nat) : Prop := Cond.code y cc maxL ret ∈ WS ∧ Cond.initialized y.cls ∈ WS ∧ (y.cls ≠ "java/lang/invoke/MethodHandle" ∧ y.cls ≠ "java/lang/invoke/VarHandle") ∧ (parseMethodDescriptor y.desc).map (fun d => d.parameters.length) = some n
theorem callB_w {lvl lvc : Nat} {s : State} {args : Array Value} {own : String} {idx n maxL : Nat} {y : MethodName} {cc : ByteArray} {ret : Option FieldType} (hk : LnkOK y cc maxL ret n) (hts : ∀ w ∈ WS, w.before args s = true) (hl : Cond.methodLink own idx y ∈ WS) (hR : lvc + 1 ≤ lvl ∧ maxL ≤ 16) : CallB (rmL lvl) s args own idx y cc maxL ret (Cond.code y cc maxL ret :: WS) (rmL lvc) 0 0 n := by
  refine callB_of (Ts := WS) n hts (fun w hw => ?_) rfl rfl rfl (hts _ hk.2.1) (hts _ hl) ⟨hk.2.2.1.1, hk.2.2.1.2, hk.2.2.2⟩ ⟨hR.1, ?_⟩
  · rcases List.mem_cons.mp hw with rfl | h
    · exact ⟨hk.1, ws_good _ hk.1⟩
    · exact ⟨h, ws_good _ h⟩
  · show 8 + (maxL + 11) + 35 * lvc ≤ 35 * lvl
    omega
theorem revmap (ad : Ky → Nat) (As rest : List AV) : (As.reverse ++ rest).map (cv ad) = (As.map (cv ad)).reverse ++ rest.map (cv ad) := by
  rw [List.map_append, List.map_reverse]
theorem optmap (ad : Ky → Nat) (r : Option AV) (rest : List AV) : (r.toList ++ rest).map (cv ad) = (r.map (cv ad)).toList ++ rest.map (cv ad) := by
  cases r <;> rfl
/-- an own method, not static -/
theorem callV_ok {g : Gm} (hg : GmOK g) {lvl lvc : Nat} {own : String} {idx n maxL t : Nat} {y : MethodName} {cc : ByteArray} {ret : Option FieldType} {sp : SP} (hM : MetC g y cc maxL ret lvc sp) (hk : LnkOK y cc maxL ret n) (hl : Cond.methodLink own idx y ∈ WS) (hi : Cond.instanceMethod y ∈ WS) (hs : Cond.selects y.cls y y ∈ WS) (hR : lvc + 1 ≤ lvl ∧ maxL ≤ 16)
    (hcl : ∃ T N, vwCl[t]? = some (y.cls, T, N)) (hsp : ∀ As f a Q, sp As f a Q → ∃ i r, As = .inr (.inr (t, i, 0)) :: r) : CallOK g lvl own idx false (n + 1) sp := by
  intro p e s m args below meth c cc' nL Qg H locs ls pc As rest f a Q hx hb hml hown hts hG hP hS hsz hc hlen hV hd hq kk
  obtain ⟨i, r, rfl⟩ := hsp As f a Q hq
  obtain ⟨T, N, hcl⟩ := hcl
  have hks : (t, i, 0) ∈ KS := ks_has (hV _ List.mem_cons_self) (cl_n hcl).1
  obtain ⟨q0, -, hq0⟩ := cells_at (ad := gAd g) (cy := gCy g) f a hks
  have hrec := va_recv (hg.2.2.1 s hG) hP hcl hq0
  have cw : CallW (rmL lvl) s args own y.cls idx y cc maxL ret (Cond.code y cc maxL ret :: WS) (rmL lvc) 0 0 n := ⟨callB_w hk hts hl hR, hts _ hi, hts _ hs⟩
  have hp : PreV s H y.cls (gAd g (t, i, 0)) (PreC g (.inr (.inr (t, i, 0)) :: r) f a) (r.map (cv (gAd g))) := ⟨PreC_blind hg _ f a, hrec, fun U hU hW => ⟨rfl, by rw [hU]; exact hP, hg.2.2.2.1 s U hW (by rw [hU]; exact hS.1) (fun q h1 h2 => by rw [hU]; exact hS.2.1 q h1 h2) hG⟩⟩
  have hM1 := hM _ f a Q hV hq
  have hst : (F0 m pc ls ((((Sum.inr (Sum.inr (t, i, 0)) : AV) :: r).reverse ++ rest).map (cv (gAd g)))).stack = (r.map (cv (gAd g))).reverse ++ .ref (gAd g (t, i, 0)) :: rest.map (cv (gAd g)) := by
    show List.map (cv (gAd g)) ((((Sum.inr (Sum.inr (t, i, 0)) : AV) :: r).reverse ++ rest)) = _
    rw [List.reverse_cons, List.append_assoc, List.map_append, List.map_reverse]
    rfl
  refine callC (va_runV (As := r.map (cv (gAd g))) (rest := rest.map (cv (gAd g))) ⟨hx, hb, hml, hown, hts⟩ hM1 cw hp rfl ?_ hsz hst (lv_room (by rw [cats_sum]; exact hc)) hd ⟨Nat.zero_le _, Nat.zero_le _⟩) hS ?_
  · rw [List.length_map]
    exact Nat.succ.inj hlen
  · intro r' f' a' H1 locs1 h1 h2 h3 h4
    rw [← optmap]
    exact kk r' f' a' H1 locs1 h1 h2 h3 h4
/-- an own static method -/
theorem callS_ok {g : Gm} (hg : GmOK g) {lvl lvc : Nat} {own : String} {idx n maxL : Nat} {y : MethodName} {cc : ByteArray} {ret : Option FieldType} {sp : SP} (hM : MetC g y cc maxL ret lvc sp) (hk : LnkOK y cc maxL ret n) (hl : Cond.methodLink own idx y ∈ WS) (hs : Cond.static y ∈ WS) (hR : lvc + 1 ≤ lvl ∧ maxL ≤ 16) : CallOK g lvl own idx true n sp := by
  intro p e s m args below meth c cc' nL Qg H locs ls pc As rest f a Q hx hb hml hown hts hG hP hS hsz hc hlen hV hd hq kk
  have hp : PreS s H (PreC g As f a) (As.map (cv (gAd g))) := ⟨PreC_blind hg _ f a, fun U hU hW => ⟨rfl, by rw [hU]; exact hP, hg.2.2.2.1 s U hW (by rw [hU]; exact hS.1) (fun q h1 h2 => by rw [hU]; exact hS.2.1 q h1 h2) hG⟩⟩
  refine callC (va_runS (As := As.map (cv (gAd g))) (rest := rest.map (cv (gAd g))) ⟨hx, hb, hml, hown, hts⟩ (hM _ f a Q hV hq) ⟨callB_w hk hts hl hR, hts _ hs⟩ hp rfl ?_ hsz (revmap _ _ _) (lv_room (by rw [cats_sum]; exact hc)) hd ⟨Nat.zero_le _, Nat.zero_le _⟩) hS ?_
  · rw [List.length_map]
    exact hlen
  · intro r' f' a' H1 locs1 h1 h2 h3 h4
    rw [← optmap]
    exact kk r' f' a' H1 locs1 h1 h2 h3 h4
/-- a static method of a nest mate -/
theorem callN_ok {g : Gm} (hg : GmOK g) {lvl lvc : Nat} {own host : String} {idx n maxL : Nat} {y : MethodName} {cc : ByteArray} {ret : Option FieldType} {sp : SP} (hM : MetC g y cc maxL ret lvc sp) (hk : LnkOK y cc maxL ret n) (hl : ∀ U, gG g U → va_Nw (.methodLinkNest own idx y host) U) (hs : Cond.static y ∈ WS) (hR : lvc + 1 ≤ lvl ∧ maxL ≤ 16) : CallOK g lvl own idx true n sp := by
  intro p e s m args below meth c cc' nL Qg H locs ls pc As rest f a Q hx hb hml hown hts hG hP hS hsz hc hlen hV hd hq kk
  have hp : PreS s H (PreC g As f a) (As.map (cv (gAd g))) := ⟨PreC_blind hg _ f a, fun U hU hW => ⟨rfl, by rw [hU]; exact hP, hg.2.2.2.1 s U hW (by rw [hU]; exact hS.1) (fun q h1 h2 => by rw [hU]; exact hS.2.1 q h1 h2) hG⟩⟩
  have cn : va_CN (rmL lvl) s args own idx y host cc maxL ret (Cond.code y cc maxL ret :: WS) (rmL lvc) 0 0 n := by
    refine va_cnB (Ts := WS) n hts (fun w hw => ?_) rfl rfl rfl (hl s hG) (hts _ hk.2.1) ⟨hk.2.2.1.1, hk.2.2.1.2, hk.2.2.2⟩ ⟨hR.1, ?_⟩
    · rcases List.mem_cons.mp hw with rfl | h
      · exact ⟨hk.1, ws_good _ hk.1⟩
      · exact ⟨h, ws_good _ h⟩
    · show 8 + (maxL + 11) + 35 * lvc ≤ 35 * lvl
      omega
  refine callC (va_runSN (As := As.map (cv (gAd g))) (rest := rest.map (cv (gAd g))) ⟨hx, hb, hml, hown, hts⟩ (hM _ f a Q hV hq) ⟨cn, hts _ hs, trivial⟩ hp rfl ?_ hsz (revmap _ _ _) (lv_room (by rw [cats_sum]; exact hc)) hd ⟨Nat.zero_le _, Nat.zero_le _⟩) hS ?_
  · rw [List.length_map]
    exact hlen
  · intro r' f' a' H1 locs1 h1 h2 h3 h4
    rw [← optmap]
    exact kk r' f' a' H1 locs1 h1 h2 h3 h4
