/-! Graphs: leaves -/
def sX0_codeOf : SP := fun As f a Q => match As with
  | [.inl x] => ∃ c, c < 81 ∧ x = nI (bitsN c) ∧ Q (some (.inl (nI c))) f a
  | _ => False
theorem pow_in1 : ∀ c, c < 81 → ¬ ((nI (bitsN c) &&& 15) < 0 ∨ 16 ≤ (nI (bitsN c) &&& 15).toNatClampNeg) := by decide +kernel
theorem pow_in2 : ∀ c, c < 81 → ¬ (((nI (bitsN c) >>> ((4 : Int32) &&& 31)) &&& 15) < 0 ∨ 16 ≤ ((nI (bitsN c) >>> ((4 : Int32) &&& 31)) &&& 15).toNatClampNeg) := by decide +kernel
theorem pow_sum : ∀ c, c < 81 → powT.getD (nI (bitsN c) &&& 15).toNatClampNeg 0 + powT.getD ((nI (bitsN c) >>> ((4 : Int32) &&& 31)) &&& 15).toNatClampNeg 0 = nI c := by decide +kernel
theorem powL : Cond.fieldLink RX0 39 "FallingCalls$Graphs" "POWERS" "[I" ∈ WS := inWS 438 (by decide +kernel) rfl
theorem mX0_codeOf {g : Gm} (hg : GmOK g) : MetC g yX0_codeOf cX0_codeOf 1 (some .int) 0 sX0_codeOf := by
  intro av f a post hav hsp
  unfold sX0_codeOf at hsp
  split at hsp
  · obtain ⟨c, hc, rfl, h⟩ := hsp
    refine Met.ofW (cc := cX0_codeOf) (maxL := 1) (ret := some .int) (by decide +kernel) rfl ?_
    intro p e s m args below meth cd s₁ B hml hv
    obtain ⟨rfl, hP, hG⟩ := hv
    have hx := B.exec
    have hb := B.bytes
    have hr := B.returns
    have hts := atoms_spec (ws := Cond.code yX0_codeOf cX0_codeOf 1 (some .int) :: WS) B.pre
    have hown : s.vm.findClass RX0 = some m.cls := findClass_of_methodNamed B.named
    have hlocks := B.notSynchronized
    obtain ⟨pw, hZ, hT⟩ := (hg.2.2.2.2 s hG).2.1
    have hS : va_S (gA g) s.heap s.heap [] := va_S.rf
    have hl := lv_entry ([Value.int (nI (bitsN c))]) (n := 1) (Nat.le_of_ble_eq_true rfl)
    rw [lg_entry_eq]
    have d0 : decode cX0_codeOf 0 = .ok (.getstatic 39, 3) := by decide +kernel
    have d3 : decode cX0_codeOf 3 = .ok (.iload_n 0, 1) := by decide +kernel
    have d4 : decode cX0_codeOf 4 = .ok (.bipush 15, 2) := by decide +kernel
    have d6 : decode cX0_codeOf 6 = .ok (.iand, 1) := by decide +kernel
    have d7 : decode cX0_codeOf 7 = .ok (.iaload, 1) := by decide +kernel
    have d8 : decode cX0_codeOf 8 = .ok (.getstatic 39, 3) := by decide +kernel
    have d11 : decode cX0_codeOf 11 = .ok (.iload_n 0, 1) := by decide +kernel
    have d12 : decode cX0_codeOf 12 = .ok (.iconst 4, 1) := by decide +kernel
    have d13 : decode cX0_codeOf 13 = .ok (.ishr, 1) := by decide +kernel
    have d14 : decode cX0_codeOf 14 = .ok (.bipush 15, 2) := by decide +kernel
    have d16 : decode cX0_codeOf 16 = .ok (.iand, 1) := by decide +kernel
    have d17 : decode cX0_codeOf 17 = .ok (.iaload, 1) := by decide +kernel
    have d18 : decode cX0_codeOf 18 = .ok (.iadd, 1) := by decide +kernel
    have d19 : decode cX0_codeOf 19 = .ok (.ireturn, 1) := by decide +kernel
    refine va_gets hx hb hZ hS hown (hts _ (List.mem_cons_of_mem _ powL)) (fun _ q => q) d0 ?_
    refine lv_iload_n hx hb d3 rfl (lv_at hl 0 rfl) ?_
    refine lv_bipush (v := 15) hx hb d4 (by decide) ?_
    refine lv_iand hx hb d6 ?_
    refine va_ti hx hb hT hS (pow_in1 c hc) rfl d7 ?_
    refine va_gets hx hb hZ hS hown (hts _ (List.mem_cons_of_mem _ powL)) (fun _ q => q) d8 ?_
    refine lv_iload_n hx hb d11 rfl (lv_at hl 0 rfl) ?_
    refine lv_iconst (v := 4) hx hb d12 (by decide) ?_
    refine lv_ishr hx hb d13 ?_
    refine lv_bipush (v := 15) hx hb d14 (by decide) ?_
    refine lv_iand hx hb d16 ?_
    refine va_ti hx hb hT hS (pow_in2 c hc) rfl d17 ?_
    refine lv_iadd hx hb d18 ?_
    refine W.iret hx hb hr (fun t ht hW => ⟨⟨some (.inl (nI c)), f, a, ?_, h, fun v hv => by cases hv; trivial, by rw [ht]; exact hP⟩, hS.F ht⟩) hS.2.2 d19
    rw [pow_sum c hc]
    rfl
  · exact hsp.elim
def stepC (x y : Int32) (i m : Nat) (z : Int32) : Int32 := if (x >>> ((2 * nI i + nI m) &&& 31)) &&& 1 = 0 then z else z ||| ((if (x >>> ((2 * nI i + nI m) &&& 31)) &&& 16 = 0 then (y >>> ((2 * nI m) &&& 31)) &&& 51 else ((y >>> ((2 * nI m) &&& 31)) &&& 51) ||| ((((y >>> ((2 * nI m) &&& 31)) &&& 51) <<< ((4 : Int32) &&& 31)) &&& 51)) <<< ((2 * nI i) &&& 31))
def innC (x y : Int32) (i : Nat) (z : Int32) : Nat → Int32
  | 0 => z
  | m + 1 => stepC x y i m (innC x y i z m)
def outC (x y : Int32) : Nat → Int32
  | 0 => 0
  | i + 1 => innC x y i (outC x y i) 2
def bT : List Int32 := (List.range 81).map (fun c => nI (bitsN c))
theorem outC_all : (List.range 81).all (fun c => (List.range 81).all (fun d => decide (outC (nI (bitsN c)) (nI (bitsN d)) 2 = nI (bitsN (compN c d))))) = true := by decide +kernel
theorem outC_ok {c d : Nat} (hc : c < 81) (hd : d < 81) : outC (nI (bitsN c)) (nI (bitsN d)) 2 = nI (bitsN (compN c d)) := of_decide_eq_true (List.all_eq_true.mp (List.all_eq_true.mp outC_all c (List.mem_range.mpr hc)) d (List.mem_range.mpr hd))
def sX0_composed : SP := fun As f a Q => match As with
  | [.inl x, .inl y] => ∃ c d, c < 81 ∧ d < 81 ∧ x = nI (bitsN c) ∧ y = nI (bitsN d) ∧ Q (some (.inl (nI (bitsN (compN c d))))) f a
  | _ => False
def eX0_composed : En := (tX0_composed, [], fdX0, [], 0)
theorem eokX0_composed {g : Gm} (hg : GmOK g) : EnvOK g 0 RX0 cX0_composed (some .int) eX0_composed := ⟨okX0_composed, (fun _ _ _ _ h => by cases h), fdX0_ok, (fun _ _ h => by cases h), rfl⟩
theorem rX0_composed (av : List AV) (f : FF) (a : AA) (post : PT) (h : sX0_composed av f a post) (X : XT) (hX : Clo eX0_composed post X) : X 0 (padL 7 (ent av)) [] f a := by
  unfold sX0_composed at h
  split at h
  · rename_i x y
    obtain ⟨c, d, hc, hd, ex, ey, h⟩ := h
    rw [← outC_ok hc hd, ← ex, ← ey] at h
    refine hX [4] 90 _ _ _ _ _ ?_
    refine forUp (Pr := fun i => ∀ z4 z5 z6, X 4 [some (.inl x), some (.inl y), some (.inl (outC x y i)), some (.inl (nI i)), z4, z5, z6] [] f a) (n := 2) (fun i hi next z4 z5 z6 => ?_) (fun z4 z5 z6 => ?_) 0 (Nat.zero_le _) none none none
    · refine hX [4, 12] 90 _ _ _ _ _ ?_
      refine ⟨fun q => absurd q (nI_ge (b := 2) hi (by decide)), fun q => ?_⟩
      refine forUp (Pr := fun m => ∀ z5 z6, X 12 [some (.inl x), some (.inl y), some (.inl (innC x y i (outC x y i) m)), some (.inl (nI i)), some (.inl (nI m)), z5, z6] [] f a) (n := 2) (fun m hm next z5 z6 => ?_) (fun z5 z6 => ?_) 0 (Nat.zero_le _) z5 z6
      · refine hX [4, 12] 90 _ _ _ _ _ ?_
        refine ⟨fun q => absurd q (nI_ge (b := 2) hm (by decide)), fun q => ?_⟩
        have e1 : innC x y i (outC x y i) (m + 1) = stepC x y i m (innC x y i (outC x y i) m) := rfl
        refine ⟨fun q1 => ?_, fun q1 => ?_⟩
        · have n1 := next (some (.inl (x >>> ((2 * nI i + nI m) &&& 31)))) z6
          rw [nI_succ, e1, stepC, if_pos q1] at n1
          exact n1
        · refine ⟨fun q2 => ?_, fun q2 => ?_⟩
          · have n1 := next (some (.inl (x >>> ((2 * nI i + nI m) &&& 31)))) (some (.inl ((y >>> ((2 * nI m) &&& 31)) &&& 51)))
            rw [nI_succ, e1, stepC, if_neg q1, if_pos q2] at n1
            exact n1
          · have n1 := next (some (.inl (x >>> ((2 * nI i + nI m) &&& 31)))) (some (.inl (((y >>> ((2 * nI m) &&& 31)) &&& 51) ||| ((((y >>> ((2 * nI m) &&& 31)) &&& 51) <<< ((4 : Int32) &&& 31)) &&& 51))))
            rw [nI_succ, e1, stepC, if_neg q1, if_neg q2] at n1
            exact n1
      · refine hX [4, 12] 90 _ _ _ _ _ ?_
        refine ⟨fun q => ?_, fun q => absurd (Int32.le_refl _) q⟩
        have n1 := next (some (.inl (nI 2))) z5 z6
        rw [nI_succ] at n1
        exact n1
    · refine hX [4] 90 _ _ _ _ _ ?_
      exact ⟨fun q => h, fun q => absurd (Int32.le_refl _) q⟩
  · exact h.elim
theorem mX0_composed {g : Gm} (hg : GmOK g) : MetC g yX0_composed cX0_composed 7 (some .int) 0 sX0_composed := by
  refine MetC_of hg eX0_composed (eokX0_composed hg) (by decide +kernel) (fun av f a post h => ?_) rX0_composed
  unfold sX0_composed at h
  split at h
  · exact Nat.le_of_ble_eq_true rfl
  · exact h.elim
def sX0_placeOf : SP := fun As f a Q => match As with
  | [.inl x, .inl y, .inl z] => ∃ i j c, x = nI i ∧ y = nI j ∧ z = nI c ∧ Q (some (.inl (nI (pl i j c)))) f a
  | _ => False
def eX0_placeOf : En := (tX0_placeOf, [], fdX0, [], 0)
theorem eokX0_placeOf {g : Gm} (hg : GmOK g) : EnvOK g 0 RX0 cX0_placeOf (some .int) eX0_placeOf := ⟨okX0_placeOf, (fun _ _ _ _ h => by cases h), fdX0_ok, (fun _ _ h => by cases h), rfl⟩
theorem rX0_placeOf (av : List AV) (f : FF) (a : AA) (post : PT) (h : sX0_placeOf av f a post) (X : XT) (hX : Clo eX0_placeOf post X) : X 0 (padL 3 (ent av)) [] f a := by
  unfold sX0_placeOf at h
  split at h
  · obtain ⟨i, j, c, rfl, rfl, rfl, h⟩ := h
    refine hX [] 90 _ _ _ _ _ ?_
    refine pI h ?_
    dsimp only
    rw [show (3 : Int32) = nI 3 from rfl, show (81 : Int32) = nI 81 from rfl, pk_mul, nI_add, pk_mul, nI_add]
    rfl
  · exact h.elim
theorem mX0_placeOf {g : Gm} (hg : GmOK g) : MetC g yX0_placeOf cX0_placeOf 3 (some .int) 0 sX0_placeOf := by
  refine MetC_of hg eX0_placeOf (eokX0_placeOf hg) (by decide +kernel) (fun av f a post h => ?_) rX0_placeOf
  unfold sX0_placeOf at h
  split at h
  · exact Nat.le_of_ble_eq_true rfl
  · exact h.elim
def sX0_has : SP := fun As f a Q => match As with
  | [.inr (.inr (0, p, 0)), .inl x] => Q (some (.inl (b2i (decide (0 ≤ x ∧ x < f 0 p 4))))) f a
  | _ => False
def eX0_has : En := (tX0_has, [], fdX0, [], 1)
theorem eokX0_has {g : Gm} (hg : GmOK g) : EnvOK g 0 RX0 cX0_has (some .boolean) eX0_has := ⟨okX0_has, (fun _ _ _ _ h => by cases h), fdX0_ok, (fun _ _ h => by cases h), rfl⟩
theorem rX0_has (av : List AV) (f : FF) (a : AA) (post : PT) (h : sX0_has av f a post) (X : XT) (hX : Clo eX0_has post X) : X 0 (padL 2 (ent av)) [] f a := by
  unfold sX0_has at h
  split at h
  · refine hX [] 20 _ _ _ _ _ ?_
    refine ⟨fun c => ?_, fun c => ⟨fun d => ?_, fun d => ?_⟩⟩
    · exact pF h (by simp [Int32.not_le.mpr c])
    · exact pF h (by simp [Int32.not_lt.mpr d])
    · exact pT h (by simp [Int32.not_lt.mp c, Int32.not_le.mp d])
  · exact h.elim
theorem shX0_has : ∀ As f a Q, sX0_has As f a Q → ∃ i r, As = .inr (.inr (0, i, 0)) :: r := by
  intro As f a Q h
  unfold sX0_has at h
  split at h
  · exact ⟨_, _, rfl⟩
  · exact h.elim
theorem mX0_has {g : Gm} (hg : GmOK g) : MetC g yX0_has cX0_has 2 (some .boolean) 0 sX0_has := by
  refine MetC_of hg eX0_has (eokX0_has hg) (by decide +kernel) (fun av f a post h => ?_) rX0_has
  unfold sX0_has at h
  split at h
  · exact Nat.le_of_ble_eq_true rfl
  · exact h.elim
