/-! fields, rows, calls, returns; all of it together -/
theorem cl_ty : ∀ (t : Nat) (C : String) (T : u_T) (N : Nat), vwCl[t]? = some (C, T, N) → ∃ ty0 : Nat → FieldType, (∀ k, k < N → parseFieldDescriptor (T k).2.2.1 = some (ty0 k)) ∧ ∀ a, a < N → ∀ b, b < N → a ≠ b → (T a).2.1 ≠ (T b).2.1
  | 0, _, _, _, h => by cases h; exact ⟨_, tyX0_ok, nmX0⟩
  | 1, _, _, _, h => by cases h; exact ⟨_, tyX1_ok, nmX1⟩
  | 2, _, _, _, h => by cases h; exact ⟨_, tyX2_ok, nmX2⟩
  | 3, _, _, _, h => by cases h; exact ⟨_, tyX3_ok, nmX3⟩
  | 4, _, _, _, h => by cases h; exact ⟨_, tyX4_ok, nmX4⟩
  | 5, _, _, _, h => by cases h; exact ⟨_, tyX5_ok, nmX5⟩
  | t + 6, _, _, _, h => by cases h
def fkOK (t : Nat) (T : u_T) (k : Nat) : Bool := (!(Nat.beq (fk t k) 0) || (decide ((T k).2.2.2 = false) && decide (parseFieldDescriptor (T k).2.2.1 = some .int))) && (!(Nat.beq (fk t k) 1) || (decide ((T k).2.2.2 = false) && decide (parseFieldDescriptor (T k).2.2.1 = some .boolean)))
theorem cl_fk0 : ∀ (t : Nat) (C : String) (T : u_T) (N : Nat), vwCl[t]? = some (C, T, N) → ∀ k, k < N → fkOK t T k = true
  | 0, _, _, _, h => by cases h; decide +kernel
  | 1, _, _, _, h => by cases h; decide +kernel
  | 2, _, _, _, h => by cases h; decide +kernel
  | 3, _, _, _, h => by cases h; decide +kernel
  | 4, _, _, _, h => by cases h; decide +kernel
  | 5, _, _, _, h => by cases h; decide +kernel
  | t + 6, _, _, _, h => by cases h
theorem cl_fk {t : Nat} {C : String} {T : u_T} {N k : Nat} (h : vwCl[t]? = some (C, T, N)) (hk : k < N) : (fk t k = 0 → (T k).2.2.2 = false ∧ parseFieldDescriptor (T k).2.2.1 = some .int) ∧ (fk t k = 1 → (T k).2.2.2 = false ∧ parseFieldDescriptor (T k).2.2.1 = some .boolean) := by
  have h1 := cl_fk0 t C T N h k hk
  unfold fkOK at h1
  simp only [Bool.and_eq_true, Bool.or_eq_true, Bool.not_eq_true', decide_eq_true_eq] at h1
  refine ⟨fun hf => ?_, fun hf => ?_⟩
  · rcases h1.1 with q | q
    · rw [hf] at q; cases q
    · exact q
  · rcases h1.2 with q | q
    · rw [hf] at q; cases q
    · exact q
theorem cl_n {t : Nat} {C : String} {T : u_T} {N : Nat} (h : vwCl[t]? = some (C, T, N)) : t < 6 ∧ N = nfl t := by
  have h1 : t < 6 := (List.getElem?_eq_some_iff.mp h).1
  have h2 := ks_nfl t h1
  rw [h] at h2
  exact ⟨h1, Option.some.inj h2⟩
theorem ks_row0 : KS.all (fun q => match q with
    | (t, _, k + 1) => Nat.beq (fk t k) 2 || (Nat.beq (fk t k) 3 || (Nat.beq (fk t k) 4 || Nat.beq (fk t k) 5))
    | _ => true) = true := by decide +kernel
theorem ks_row {t i k : Nat} (h : (t, i, k + 1) ∈ KS) : fk t k = 2 ∨ fk t k = 3 ∨ fk t k = 4 ∨ fk t k = 5 := by
  have h1 := List.all_eq_true.mp ks_row0 _ h
  simp only [Bool.or_eq_true] at h1
  rcases h1 with h | h | h | h
  · exact Or.inl (Nat.eq_of_beq_eq_true h)
  · exact Or.inr (Or.inl (Nat.eq_of_beq_eq_true h))
  · exact Or.inr (Or.inr (Or.inl (Nat.eq_of_beq_eq_true h)))
  · exact Or.inr (Or.inr (Or.inr (Nat.eq_of_beq_eq_true h)))
theorem tyl_raf (cy : Nat → ClassId) (k : Nat) : ∃ C, (tyl cy)[2 + (raf k).1]? = some (cy (2 + (raf k).1), .object C) := by
  unfold raf
  split
  · exact ⟨_, rfl⟩
  · exact ⟨_, rfl⟩
theorem nar_bool {x : Int32} (h : x = 0 ∨ x = 1) : narrow .boolean (.int x) = .int x := by
  rcases h with rfl | rfl <;> decide
section Steps2
variable {g : Gm} {p : Program} {e : Env} {lvl : Nat} {s : State} {m : MethodId} {args : Array Value} {below : List Frame} {meth : Method} {c : Code} {cc : ByteArray} {nL : Nat} {own : String} {Qg : State → Prop} {Y : XT} {pc nxt tgt len : Nat} {ls : Lcs} {st : List AV} {f : FF} {a : AA}
theorem s_getF (hg : GmOK g) (F : Fx g p s m args c cc nL own) (hY : ∀ pc ls st f a, Y pc ls st f a → Wp g p e (rmL lvl) s m args below meth c nL Qg pc ls st f a) {n : Nat} {tk : Option (Nat × Nat)} (hf : ∀ t k, tk = some (t, k) → FldOK own n t k) (hd : decode cc pc = .ok (.getfield n, 3) ∧ nxt = pc + 3) (h : getF Y tk nxt ls st f a) : Wp g p e (rmL lvl) s m args below meth c nL Qg pc ls st f a := by
  intro H locs A hP hS hL hV
  unfold getF at h
  split at h
  · rename_i t k t' i r
    cases hb : Nat.beq t t' with
    | false => rw [hb] at h; exact h.elim
    | true =>
      rw [hb] at h
      have ht := Nat.eq_of_beq_eq_true hb
      subst ht
      obtain ⟨C, T, N, h1, h2, h3, h4⟩ := hf t k rfl
      obtain ⟨ht6, hN⟩ := cl_n h1
      have hks : (t, i, 0) ∈ KS := ks_has (va_lt hV).1 ht6
      obtain ⟨q0, -, hq⟩ := cells_at (ad := gAd g) (cy := gCy g) f a hks
      obtain ⟨hd, rfl⟩ := hd
      have hv : ((List.range (nfl t)).map (fun k => cv (gAd g) (gfv f t i k)))[k]? = some (cv (gAd g) (gfv f t i k)) := by
        rw [List.getElem?_map, List.getElem?_range (by omega)]; rfl
      exact va_get (D := gD g) (Ts := WS) F.1 F.2.1 F.2.2.2.2.1 h4 F.2.2.2.1 (hg.2.2.1 s F.2.2.2.2.2) hP q0 hq h1 k h2 (F.2.2.2.2.1 _ h3) (fun _ q => q) hv hd (hY _ _ _ _ _ h H locs A hP hS hL (va_ad (ks_get f hks (by omega)) (va_lt hV).2))
  · exact h.elim
theorem s_putF (hg : GmOK g) (F : Fx g p s m args c cc nL own) (hY : ∀ pc ls st f a, Y pc ls st f a → Wp g p e (rmL lvl) s m args below meth c nL Qg pc ls st f a) {n : Nat} {tk : Option (Nat × Nat)} (hf : ∀ t k, tk = some (t, k) → FldOK own n t k) (hd : decode cc pc = .ok (.putfield n, 3) ∧ nxt = pc + 3) (h : putF Y tk nxt ls st f a) : Wp g p e (rmL lvl) s m args below meth c nL Qg pc ls st f a := by
  intro H locs A hP hS hL hV
  unfold putF at h
  split at h
  · rename_i t k x t' i r
    cases hb : Nat.beq t t' with
    | false => rw [hb] at h; exact h.elim
    | true =>
      rw [hb] at h
      have ht := Nat.eq_of_beq_eq_true hb
      subst ht
      obtain ⟨C, T, N, h1, h2, h3, h4⟩ := hf t k rfl
      obtain ⟨ht6, hN⟩ := cl_n h1
      have hks : (t, i, 0) ∈ KS := ks_has (va_lt (va_lt hV).2).1 ht6
      obtain ⟨q0, hq0, hq⟩ := cells_at (ad := gAd g) (cy := gCy g) f a hks
      obtain ⟨hd, rfl⟩ := hd
      obtain ⟨ty0, hty, hnm⟩ := cl_ty t C T N h1
      have hl : k < ((List.range (nfl t)).map (fun k => cv (gAd g) (gfv f t i k))).length := by
        rw [List.length_map, List.length_range]; omega
      obtain ⟨hf0, hf1⟩ := cl_fk h1 h2
      have key : (fk t k = 0 ∨ fk t k = 1) → Y (pc + 3) ls r (upf f t i k x) a → ∀ (H1 : Heap) (locs1 : List Loc), va_P (gD g) vwCl ((cells (gAd g) (gCy g) f a).set q0 (gAd g (t, i, 0), .inr (t, ((List.range (nfl t)).map (fun k => cv (gAd g) (gfv f t i k))).set k (.int x)))) H1 → va_S (gA g) s.heap H1 locs1 → W p (gL g) e (rmL lvl) s m args below meth c H1 locs1 0 0 Qg (F0 m (pc + 3) A (r.map (cv (gAd g)))) := by
        intro hfk hh H1 locs1 hP1 hS1
        rw [cells_set (f' := upf f t i k x) (a' := a) hq0 (el_upf hfk) (fun q' hq' => el_upf' q' hq')] at hP1
        exact hY _ _ _ _ _ hh H1 locs1 A hP1 hS1 hL (va_lt (va_lt hV).2).2
      simp only [cond_true] at h
      split at h
      · rename_i hfk
        exact va_put (D := gD g) (Ts := WS) (v := .int x) F.1 F.2.1 F.2.2.2.2.1 h4 ty0 hty hnm F.2.2.2.1 (hg.2.2.1 s F.2.2.2.2.2) hP (gD_ok hg f a) hS q0 hq h1 k h2 (F.2.2.2.2.1 _ h3) (fun _ q => q) (hf0 hfk).1 (hf0 hfk).2 rfl rfl hl hd (fun H1 locs1 hP1 _ hS1 => key (Or.inl hfk) h H1 locs1 hP1 hS1)
      · rename_i hfk
        exact va_put (D := gD g) (Ts := WS) (v := .int x) F.1 F.2.1 F.2.2.2.2.1 h4 ty0 hty hnm F.2.2.2.1 (hg.2.2.1 s F.2.2.2.2.2) hP (gD_ok hg f a) hS q0 hq h1 k h2 (F.2.2.2.2.1 _ h3) (fun _ q => q) (hf1 hfk).1 (hf1 hfk).2 (nar_bool h.1) (by rcases h.1 with rfl | rfl <;> rfl) hl hd (fun H1 locs1 hP1 _ hS1 => key (Or.inr hfk) h.2 H1 locs1 hP1 hS1)
      · exact h.elim
  · exact h.elim
theorem s_iald (hg : GmOK g) (F : Fx g p s m args c cc nL own) (hY : ∀ pc ls st f a, Y pc ls st f a → Wp g p e (rmL lvl) s m args below meth c nL Qg pc ls st f a) (hd : decode cc pc = .ok (.iaload, 1) ∧ nxt = pc + 1) (h : ldX Y (fun n => Nat.beq n 2) nxt ls st f a) : Wp g p e (rmL lvl) s m args below meth c nL Qg pc ls st f a := by
  intro H locs A hP hS hL hV
  unfold ldX at h
  split at h
  · rename_i j t i k r
    dsimp only at h
    cases hb : Nat.beq (fk t k) 2 with
    | false => rw [hb] at h; exact h.elim
    | true =>
      rw [hb] at h
      have hks := ks_has1 (va_lt (va_lt hV).2).1
      obtain ⟨q0, -, hq⟩ := cells_at (ad := gAd g) (cy := gCy g) f a hks
      rw [el_row.1 (Nat.eq_of_beq_eq_true hb)] at hq
      obtain ⟨hd, rfl⟩ := hd
      exact va_iald (D := gD g) F.1 F.2.1 (hg.2.2.1 s F.2.2.2.2.2) hP q0 0 hq rfl h.1 hd (hY _ _ _ _ _ h.2 H locs A hP hS hL (va_ad trivial (va_lt (va_lt hV).2).2))
  · exact h.elim
theorem s_bald (hg : GmOK g) (F : Fx g p s m args c cc nL own) (hY : ∀ pc ls st f a, Y pc ls st f a → Wp g p e (rmL lvl) s m args below meth c nL Qg pc ls st f a) (hd : decode cc pc = .ok (.baload, 1) ∧ nxt = pc + 1) (h : ldX Y (fun n => Nat.beq n 3 || Nat.beq n 4) nxt ls st f a) : Wp g p e (rmL lvl) s m args below meth c nL Qg pc ls st f a := by
  intro H locs A hP hS hL hV
  unfold ldX at h
  split at h
  · rename_i j t i k r
    dsimp only at h
    have hks := ks_has1 (va_lt (va_lt hV).2).1
    obtain ⟨q0, -, hq⟩ := cells_at (ad := gAd g) (cy := gCy g) f a hks
    obtain ⟨hd, rfl⟩ := hd
    cases hb : Nat.beq (fk t k) 3 with
    | true =>
      rw [hb] at h
      rw [el_row.2.1 (Nat.eq_of_beq_eq_true hb)] at hq
      exact va_bald (D := gD g) F.1 F.2.1 (hg.2.2.1 s F.2.2.2.2.2) hP q0 1 hq rfl h.1 hd (hY _ _ _ _ _ h.2 H locs A hP hS hL (va_ad trivial (va_lt (va_lt hV).2).2))
    | false =>
      cases hb2 : Nat.beq (fk t k) 4 with
      | true =>
        rw [hb, hb2] at h
        rw [el_row.2.2.1 (Nat.eq_of_beq_eq_true hb2)] at hq
        exact va_zald (D := gD g) F.1 F.2.1 (hg.2.2.1 s F.2.2.2.2.2) hP q0 2 hq rfl h.1 hd (hY _ _ _ _ _ h.2 H locs A hP hS hL (va_ad trivial (va_lt (va_lt hV).2).2))
      | false => rw [hb, hb2] at h; exact h.elim
  · exact h.elim
theorem s_aald (hg : GmOK g) (F : Fx g p s m args c cc nL own) (hY : ∀ pc ls st f a, Y pc ls st f a → Wp g p e (rmL lvl) s m args below meth c nL Qg pc ls st f a) (hd : decode cc pc = .ok (.aaload, 1) ∧ nxt = pc + 1) (h : ldR Y nxt ls st f a) : Wp g p e (rmL lvl) s m args below meth c nL Qg pc ls st f a := by
  intro H locs A hP hS hL hV
  unfold ldR at h
  split at h
  · rename_i j t i k r
    cases hb : (Nat.beq (fk t k) 5 && Nat.beq t 4) with
    | false => rw [hb] at h; exact h.elim
    | true =>
      rw [hb] at h
      simp only [Bool.and_eq_true] at hb
      have h5 := Nat.eq_of_beq_eq_true hb.1
      have h4 := Nat.eq_of_beq_eq_true hb.2
      subst h4
      have hks := ks_has1 (va_lt (va_lt hV).2).1
      obtain ⟨q0, -, hq⟩ := cells_at (ad := gAd g) (cy := gCy g) f a hks
      rw [el_row.2.2.2 h5] at hq
      obtain ⟨hd, rfl⟩ := hd
      obtain ⟨C, hC⟩ := tyl_raf (gCy g) k
      have hlt : j.toNatClampNeg < al 4 k := Nat.not_le.mp fun q => h.1 (Or.inr q)
      exact va_aldq (D := gD g) F.1 F.2.1 (hg.2.2.1 s F.2.2.2.2.2) hP q0 _ hq hC h.1 hd (hY _ _ _ _ _ h.2 H locs A hP hS hL (va_ad (Or.inl (ks_ref hks h5 hlt)) (va_lt (va_lt hV).2).2))
  · exact h.elim
theorem s_alen (hg : GmOK g) (F : Fx g p s m args c cc nL own) (hY : ∀ pc ls st f a, Y pc ls st f a → Wp g p e (rmL lvl) s m args below meth c nL Qg pc ls st f a) (hd : decode cc pc = .ok (.arraylength, 1) ∧ nxt = pc + 1) (h : alN Y nxt ls st f a) : Wp g p e (rmL lvl) s m args below meth c nL Qg pc ls st f a := by
  intro H locs A hP hS hL hV
  unfold alN at h
  split at h
  · rename_i t i k r
    have hks := ks_has1 (va_lt hV).1
    obtain ⟨q0, -, hq⟩ := cells_at (ad := gAd g) (cy := gCy g) f a hks
    obtain ⟨hd, rfl⟩ := hd
    have K := hY _ _ _ _ _ h H locs A hP hS hL (va_ad trivial (va_lt hV).2)
    rcases ks_row hks with q | q | q | q
    · rw [el_row.1 q] at hq
      exact va_alen (D := gD g) F.1 F.2.1 (hg.2.2.1 s F.2.2.2.2.2) hP q0 0 hq rfl rfl hd K
    · rw [el_row.2.1 q] at hq
      exact va_alen (D := gD g) F.1 F.2.1 (hg.2.2.1 s F.2.2.2.2.2) hP q0 1 hq rfl rfl hd K
    · rw [el_row.2.2.1 q] at hq
      exact va_alen (D := gD g) F.1 F.2.1 (hg.2.2.1 s F.2.2.2.2.2) hP q0 2 hq rfl rfl hd K
    · rw [el_row.2.2.2 q] at hq
      obtain ⟨C, hC⟩ := tyl_raf (gCy g) k
      exact va_alen (D := gD g) F.1 F.2.1 (hg.2.2.1 s F.2.2.2.2.2) hP q0 _ hq hC rfl hd K
  · exact h.elim
theorem s_iast (hg : GmOK g) (F : Fx g p s m args c cc nL own) (hY : ∀ pc ls st f a, Y pc ls st f a → Wp g p e (rmL lvl) s m args below meth c nL Qg pc ls st f a) (hd : decode cc pc = .ok (.iastore, 1) ∧ nxt = pc + 1) (h : stX Y nxt ls st f a) : Wp g p e (rmL lvl) s m args below meth c nL Qg pc ls st f a := by
  intro H locs A hP hS hL hV
  unfold stX at h
  split at h
  · rename_i x j t i k r
    cases hb : Nat.beq (fk t k) 2 with
    | false => rw [hb] at h; exact h.elim
    | true =>
      rw [hb] at h
      have hks := ks_has1 (va_lt (va_lt (va_lt hV).2).2).1
      obtain ⟨q0, hq0, hq⟩ := cells_at (ad := gAd g) (cy := gCy g) f a hks
      have hfk := Nat.eq_of_beq_eq_true hb
      rw [el_row.1 hfk] at hq
      obtain ⟨hd, rfl⟩ := hd
      refine va_iast (D := gD g) F.1 F.2.1 (hg.2.2.1 s F.2.2.2.2.2) hP (gD_ok hg f a) hS q0 0 hq rfl h.1 hd (fun H1 locs1 hP1 _ hS1 => ?_)
      rw [cells_set (f' := f) (a' := upa a t i k j.toNatClampNeg x) hq0 (by rw [el_row.1 hfk, upa, upA_eq]) (fun q' hq' => el_upA' q' hq')] at hP1
      exact hY _ _ _ _ _ h.2 H1 locs1 A hP1 hS1 hL (va_lt (va_lt (va_lt hV).2).2).2
  · exact h.elim
theorem s_bast (hg : GmOK g) (F : Fx g p s m args c cc nL own) (hY : ∀ pc ls st f a, Y pc ls st f a → Wp g p e (rmL lvl) s m args below meth c nL Qg pc ls st f a) (hd : decode cc pc = .ok (.bastore, 1) ∧ nxt = pc + 1) (h : stB Y nxt ls st f a) : Wp g p e (rmL lvl) s m args below meth c nL Qg pc ls st f a := by
  intro H locs A hP hS hL hV
  unfold stB at h
  split at h
  · rename_i x j t i k r
    have hks := ks_has1 (va_lt (va_lt (va_lt hV).2).2).1
    obtain ⟨q0, hq0, hq⟩ := cells_at (ad := gAd g) (cy := gCy g) f a hks
    obtain ⟨hd, rfl⟩ := hd
    split at h
    · rename_i hfk
      rw [el_row.2.1 hfk] at hq
      refine va_bast (D := gD g) F.1 F.2.1 (hg.2.2.1 s F.2.2.2.2.2) hP (gD_ok hg f a) hS q0 1 hq rfl h.1 hd (fun H1 locs1 hP1 _ hS1 => ?_)
      rw [cells_set (f' := f) (a' := upa a t i k j.toNatClampNeg (vp_nar .byte x)) hq0 (by rw [el_row.2.1 hfk, upa, upA_eq]) (fun q' hq' => el_upA' q' hq')] at hP1
      exact hY _ _ _ _ _ h.2 H1 locs1 A hP1 hS1 hL (va_lt (va_lt (va_lt hV).2).2).2
    · rename_i hfk
      rw [el_row.2.2.1 hfk] at hq
      refine va_zast (D := gD g) F.1 F.2.1 (hg.2.2.1 s F.2.2.2.2.2) hP (gD_ok hg f a) hS q0 2 hq rfl h.1 hd (fun H1 locs1 hP1 _ hS1 => ?_)
      rw [cells_set (f' := f) (a' := upa a t i k j.toNatClampNeg (vp_nar .boolean x)) hq0 (by rw [el_row.2.2.1 hfk, upa, upA_eq]) (fun q' hq' => el_upA' q' hq')] at hP1
      exact hY _ _ _ _ _ h.2 H1 locs1 A hP1 hS1 hL (va_lt (va_lt (va_lt hV).2).2).2
    · exact h.elim
  · exact h.elim
theorem s_call (F : Fx g p s m args c cc nL own) (hY : ∀ pc ls st f a, Y pc ls st f a → Wp g p e (rmL lvl) s m args below meth c nL Qg pc ls st f a) {n : Nat} {b : Bool} {ns : Option (Bool × Nat × SP)} (hc : ∀ b k sp, ns = some (b, k, sp) → CallOK g lvl own n b k sp) (hd : decode cc pc = .ok (bif b then .invokestatic n else .invokevirtual n, 3) ∧ nxt = pc + 3) (h : callX Y b ns nxt ls st f a) : Wp g p e (rmL lvl) s m args below meth c nL Qg pc ls st f a := by
  intro H locs A hP hS hL hV
  have key : ∀ (k : Nat) (sp : SP), CallOK g lvl own n b k sp → popA k [] st (fun As r => bif Nat.ble (cats r) 8 then sp As f a (fun v f' a' => Y nxt ls (v.toList ++ r) f' a') else False) → W p (gL g) e (rmL lvl) s m args below meth c H locs 0 0 Qg (F0 m pc A (st.map (cv (gAd g)))) := by
    intro k sp hc h
    obtain ⟨As, r, h1, h2, h3⟩ := popA_ok h
    rw [List.append_nil] at h1
    cases hb : Nat.ble (cats r) 8 with
    | false => rw [hb] at h1; exact h1.elim
    | true =>
      rw [hb] at h1
      obtain ⟨hd, rfl⟩ := hd
      subst h2
      refine hc p e s m args below meth c cc nL Qg H locs A pc As r f a _ F.1 F.2.1 F.2.2.1 F.2.2.2.1 F.2.2.2.2.1 F.2.2.2.2.2 hP hS ?_ (Nat.le_of_ble_eq_true hb) h3 (fun v hv => hV v (List.mem_append_left _ (List.mem_reverse.mpr hv))) hd h1 ?_
      · obtain ⟨-, lv, hl, -⟩ := hL
        exact hl.1
      · intro v f' a' H1 locs1 hh hv hP1 hS1
        refine hY _ _ _ _ _ hh H1 locs1 A hP1 hS1 hL (fun w hw => ?_)
        rcases List.mem_append.mp hw with q | q
        · exact hv w (Option.mem_toList.mp q)
        · exact hV w (List.mem_append_right _ q)
  unfold callX at h
  split at h
  · exact key _ _ (hc _ _ _ rfl) h
  · exact key _ _ (hc _ _ _ rfl) h
  · exact h.elim
end Steps2
