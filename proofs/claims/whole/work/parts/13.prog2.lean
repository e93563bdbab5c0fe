/-! the JDK's own: arraycopy, min, fill -/
def sJS_copy : SP := fun As f a Q => match As with
  | [.inr (.inr (t, i, k + 1)), .inl s, .inr (.inr (t', i', k' + 1)), .inl d, .inl n] => s = 0 ∧ d = 0 ∧ fk t k = 2 ∧ fk t' k' = 2 ∧ ∃ m, n = nI m ∧ m ≤ al t k ∧ m ≤ al t' k' ∧ m < 2 ^ 31 ∧ Q none f (upA a t' i' k' (va_cpy (a t i k) (a t' i' k') 0 0 m))
  | _ => False
theorem callJS_copy {g : Gm} (hg : GmOK g) {lvl idx : Nat} {own : String} (hl : Cond.methodLink own idx arraycopyName ∈ WS) (h1 : Cond.native arraycopyName ∈ WS) (h2 : Cond.static arraycopyName ∈ WS) (h3 : Cond.initialized "java/lang/System" ∈ WS) : CallOK g (lvl + 1) own idx true 5 sJS_copy := by
  intro p e s m args below meth c cc' nL Qg H locs ls pc As rest f a Q hx hb hml hown hts hG hP hS hsz hc hlen hV hd hq kk
  unfold sJS_copy at hq
  split at hq
  · rename_i t i k sI t' i' k' dI nn
    obtain ⟨rfl, rfl, hf1, hf2, mm, rfl, hm1, hm2, hm3, hq⟩ := hq
    have hk1 := ks_has1 (hV (.inr (.inr (t, i, k + 1))) (by simp))
    have hk2 := ks_has1 (hV (.inr (.inr (t', i', k' + 1))) (by simp))
    obtain ⟨q0, hq0, hz0⟩ := cells_at (ad := gAd g) (cy := gCy g) f a hk1
    obtain ⟨q1, hq1, hz1⟩ := cells_at (ad := gAd g) (cy := gCy g) f a hk2
    rw [el_row.1 hf1] at hz0
    rw [el_row.1 hf2] at hz1
    have hcl : (nI mm).toNatClampNeg = mm := nI_clamp hm3
    refine va_copyi (D := gD g) (ty := .int) hx hb (hml.trans hsz.symm) hown (hts _ hl) (hts _ h1) (hts _ h2) (hts _ h3) (hg.2.2.1 s hG) hP (gD_ok hg f a) hS q0 q1 0 0 hz0 hz1 rfl rfl rfl (sp := 0) (dp := 0) (n := nI mm) (by decide) (by decide) (nI_pos hm3) (by rw [hcl]; show 0 + mm ≤ _; omega) (by rw [hcl]; show 0 + mm ≤ _; omega) (fun _ _ => rfl) (by show 1 ≤ lvl + 1; omega) ?_ hd (fun H1 locs1 hP1 _ hS1 => ?_)
    · rw [cats_sum]
      show cats rest + (nativeFrameWords "java/lang/System" "arraycopy" 5 + 11) ≤ 35 * (lvl + 1)
      have : nativeFrameWords "java/lang/System" "arraycopy" 5 ≤ 16 := by decide
      omega
    · rw [hcl] at hP1
      rw [cells_set (f' := f) (a' := upA a t' i' k' (va_cpy (a t i k) (a t' i' k') 0 0 mm)) hq1 (by rw [el_row.1 hf2, upA_eq]; rfl) (fun q' hq' => el_upA' q' hq')] at hP1
      exact kk none f _ H1 locs1 hq (fun v hv => by cases hv) hP1 hS1
  · exact hq.elim
def sJ9_min : SP := fun As f a Q => match As with
  | [.inl x, .inl y] => Q (some (.inl (if y < x then y else x))) f a
  | _ => False
theorem callJ9_min {g : Gm} (hg : GmOK g) {lvl idx : Nat} {own : String} (hl : Cond.methodLink own idx Lib.Math.min.name ∈ WS) (h1 : Cond.static Lib.Math.min.name ∈ WS) (h2 : Cond.initialized "java/lang/Math" ∈ WS) (h3 : Cond.code Lib.Math.min.name Lib.Math.min.code 2 (some .int) ∈ WS) : CallOK g (lvl + 1) own idx true 2 sJ9_min := by
  intro p e s m args below meth c cc' nL Qg H locs ls pc As rest f a Q hx hb hml hown hts hG hP hS hsz hc hlen hV hd hq kk
  unfold sJ9_min at hq
  split at hq
  · rename_i x y
    refine va_mmin hx hb (hml.trans hsz.symm) hown (hts _ hl) (hts _ h1) (hts _ h2) (hts _ h3) (by show 1 ≤ lvl + 1; omega) ?_ (Nat.zero_le _) (Nat.zero_le _) hd (kk _ f a H locs hq (fun v hv => by cases hv; trivial) hP hS)
    rw [cats_sum]
    show cats rest + 13 ≤ 35 * (lvl + 1)
    omega
  · exact hq.elim
theorem callJS_copy_X1_31 {g : Gm} (hg : GmOK g) {lvl : Nat} : CallOK g (lvl + 1) RX1 31 true 5 sJS_copy := callJS_copy hg (inWS 384 (by decide +kernel) rfl) (inWS 386 (by decide +kernel) rfl) (inWS 385 (by decide +kernel) rfl) (inWS 68 (by decide +kernel) rfl)
theorem callJ9_min_X1_78 {g : Gm} (hg : GmOK g) {lvl : Nat} : CallOK g (lvl + 1) RX1 78 true 2 sJ9_min := callJ9_min hg (inWS 653 (by decide +kernel) rfl) (inWS 654 (by decide +kernel) rfl) (inWS 70 (by decide +kernel) rfl) (inWS 655 (by decide +kernel) rfl)
def sJ7_fill_53178 : SP := fun As f a Q => match As with
  | [.inr (.inr (t, i, k + 1)), .inl x] => ((t = 0 ∧ k = 10) ∨ (t = 0 ∧ k = 3) ∨ (t = 2 ∧ k = 0)) ∧ ∀ g : Nat → Int32, (∀ j, j < al t k → g j = x) → (∀ j, al t k ≤ j → g j = a t i k j) → Q none f (upA a t i k g)
  | _ => False
def eJ7_fill_53178 : En := (tJ7_fill_53178, [], [], [], 2)
theorem eokJ7_fill_53178 {g : Gm} (hg : GmOK g) : EnvOK g 0 RJ7 cJ7_fill_53178 none eJ7_fill_53178 := ⟨okJ7_fill_53178, (fun _ _ _ _ h => by cases h), (fun _ _ _ h => by cases h), (fun _ _ h => by cases h), rfl⟩
def fillN (g : Nat → Int32) (x : Int32) (n : Nat) : Nat → Int32 := fun j => if j < n then x else g j
theorem fillN_s (g : Nat → Int32) (x : Int32) (n : Nat) : upd (fillN g x n) n x = fillN g x (n + 1) := by
  funext j
  simp only [upd, fillN]
  by_cases h : j = n
  · simp [h]
  · by_cases h2 : j < n
    · simp [h, h2, show j < n + 1 by omega]
    · simp [h, h2, show ¬ j < n + 1 by omega]
theorem rJ7_fill_53178 (av : List AV) (f : FF) (a : AA) (post : PT) (h : sJ7_fill_53178 av f a post) (X : XT) (hX : Clo eJ7_fill_53178 post X) : X 0 (padL 4 (ent av)) [] f a := by
  unfold sJ7_fill_53178 at h
  split at h
  · rename_i t i k x
    obtain ⟨hf, h⟩ := h
    have fin : al t k < 2 ^ 31 → X 5 [some (.inr (.inr (t, i, k + 1))), some (.inl x), some (.inl (nI 0)), some (.inl (nI (al t k)))] [] f (upA a t i k (fillN (a t i k) x 0)) := by
      intro hl
      refine forUp (Pr := fun j => X 5 [some (.inr (.inr (t, i, k + 1))), some (.inl x), some (.inl (nI j)), some (.inl (nI (al t k)))] [] f (upA a t i k (fillN (a t i k) x j))) (n := al t k) (fun j hj hnext => ?_) ?_ 0 (Nat.zero_le _)
      · refine hX [5] 40 _ _ _ _ _ ?_
        refine ⟨fun c => ?_, fun c => ?_⟩
        · exact absurd c (nI_ge hj hl)
        · have e : upa (upA a t i k (fillN (a t i k) x j)) t i k (nI j).toNatClampNeg x = upA a t i k (fillN (a t i k) x (j + 1)) := by
            unfold upa
            rw [upA_eq, nI_clamp (by omega), fillN_s]
            funext t' i' k'
            by_cases q : t' = t ∧ i' = i ∧ k' = k
            · obtain ⟨rfl, rfl, rfl⟩ := q
              rw [upA_eq, upA_eq]
            · rw [upA_ne q, upA_ne q, upA_ne q]
          rw [← e, nI_succ] at hnext
          rcases hf with ⟨rfl, rfl⟩ | ⟨rfl, rfl⟩ | ⟨rfl, rfl⟩ <;> exact ⟨vp_in_nI hj hl, hnext⟩
      · refine hX [5] 40 _ _ _ _ _ ?_
        refine ⟨fun c => ?_, fun c => ?_⟩
        · exact h _ (fun j hj => by simp [fillN, hj]) (fun j hj => by simp [fillN, show ¬ j < al t k by omega])
        · exact absurd (Int32.le_refl _) c
    have e0 : upA a t i k (fillN (a t i k) x 0) = a := by
      funext t' i' k'
      by_cases q : t' = t ∧ i' = i ∧ k' = k
      · obtain ⟨rfl, rfl, rfl⟩ := q
        rw [upA_eq]
        funext j
        simp [fillN]
      · rw [upA_ne q]
    rw [e0] at fin
    refine hX [5] 40 _ _ _ _ _ ?_
    exact fin (by rcases hf with ⟨rfl, rfl⟩ | ⟨rfl, rfl⟩ | ⟨rfl, rfl⟩ <;> decide)
  · exact h.elim
theorem mJ7_fill_53178 {g : Gm} (hg : GmOK g) : MetC g yJ7_fill_53178 cJ7_fill_53178 4 none 0 sJ7_fill_53178 := by
  refine MetC_of hg eJ7_fill_53178 (eokJ7_fill_53178 hg) (by decide +kernel) (fun av f a post h => ?_) rJ7_fill_53178
  unfold sJ7_fill_53178 at h
  split at h
  · exact Nat.le_of_ble_eq_true rfl
  · exact h.elim
