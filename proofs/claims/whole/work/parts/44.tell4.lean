/-! lines of the text -/
theorem ar_opn {P : Pg} {n i : Nat} (hi : i < P.1.length) : ar (P.1 ++ [n], P.2) i = ar P i := by
  show (P.1 ++ [n]).getD i 0 = P.1.getD i 0
  rw [List.getD_eq_getElem?_getD, List.getD_eq_getElem?_getD, List.getElem?_append_left hi]
theorem ar_opn2 {P : Pg} {n : Nat} : ar (P.1 ++ [n], P.2) P.1.length = n := by
  show (P.1 ++ [n]).getD P.1.length 0 = n
  rw [List.getD_eq_getElem?_getD, List.getElem?_append_right (Nat.le_refl _), Nat.sub_self]
  rfl
theorem WF.opn {P : Pg} {n : Nat} (h : WF P) (hl : P.1.length < 3) (hn : n = 1 ∨ n = 2) : WF (P.1 ++ [n], P.2) := by
  have el : (P.1 ++ [n], P.2).1.length = P.1.length + 1 := by show (P.1 ++ [n]).length = _; rw [List.length_append]; rfl
  refine ⟨by rw [el]; omega, h.2.1, fun i hi => ?_, fun c hc => ?_⟩
  · rw [el] at hi
    rcases (show i < P.1.length ∨ i = P.1.length by omega) with z | z
    · rw [ar_opn z]
      exact h.2.2.1 i z
    · rw [z, ar_opn2]
      exact hn
  · have := h.2.2.2 c hc
    show okC _ (cl P c)
    unfold okC at this ⊢
    rw [el, ar_opn this.1, ar_opn this.2.1]
    exact ⟨by omega, by omega, this.2.2⟩
theorem cl_app {P : Pg} {q : Nat × Nat × Nat × Nat} {c : Nat} : cl (P.1, P.2 ++ [q]) c = if c < P.2.length then cl P c else if c = P.2.length then q else (0, 0, 0, 0) := by
  show (P.2 ++ [q]).getD c (0, 0, 0, 0) = _
  rw [List.getD_eq_getElem?_getD]
  by_cases h : c < P.2.length
  · rw [if_pos h, List.getElem?_append_left h, ← List.getD_eq_getElem?_getD]
    rfl
  · rw [if_neg h, List.getElem?_append_right (by omega)]
    by_cases h2 : c = P.2.length
    · rw [if_pos h2, h2, Nat.sub_self]
      rfl
    · rw [if_neg h2, List.getElem?_eq_none (by show [q].length ≤ _; simp; omega)]
      rfl
theorem WF.app {P : Pg} {q : Nat × Nat × Nat × Nat} (h : WF P) (hl : P.2.length < 12) (hq : okC P q) : WF (P.1, P.2 ++ [q]) := by
  have el : (P.1, P.2 ++ [q]).2.length = P.2.length + 1 := by show (P.2 ++ [q]).length = _; rw [List.length_append]; rfl
  refine ⟨h.1, by rw [el]; omega, h.2.2.1, fun c hc => ?_⟩
  rw [el] at hc
  rw [cl_app]
  by_cases h1 : c < P.2.length
  · rw [if_pos h1]
    exact h.2.2.2 c h1
  · rw [if_neg h1, if_pos (by omega)]
    exact hq
theorem set_app {P : Pg} {x y u : Nat} : setA (P.1, P.2 ++ [(x, y, 0, 0)]) P.2.length 0 u = (P.1, P.2 ++ [(x, y, u, 0)]) := by
  unfold setA
  rw [cl_app, if_neg (Nat.lt_irrefl _), if_pos rfl, if_pos rfl]
  show (P.1, (P.2 ++ [(x, y, 0, 0)]).set P.2.length _) = _
  rw [List.set_append_right _ _ (Nat.le_refl _), Nat.sub_self]
  rfl
theorem set_app2 {P : Pg} {x y u w : Nat} : setA (P.1, P.2 ++ [(x, y, u, 0)]) P.2.length 1 w = (P.1, P.2 ++ [(x, y, u, w)]) := by
  unfold setA
  rw [cl_app, if_neg (Nat.lt_irrefl _), if_pos rfl, if_neg (by decide)]
  show (P.1, (P.2 ++ [(x, y, u, 0)]).set P.2.length _) = _
  rw [List.set_append_right _ _ (Nat.le_refl _), Nat.sub_self]
  rfl
/-! behind a fault nothing is read -/
theorem LOK.k0 {T : List Nat} {σ : Lx} (h : LOK T σ) (hf : σ.1 ≠ 0) : σ.2.2.2 = 0 := by
  by_cases z : σ.2.2.2 = 0
  · exact z
  · exact absurd (h.2.2.2.2.1 z).1 hf
theorem ref_id {T : List Nat} {σ : Lx} (h : LOK T σ) (hf : σ.1 ≠ 0) (x : Nat) : refN x σ = σ := by
  have := h.k0 hf
  unfold refN
  rw [if_neg hf, ← this]
theorem ref_f {x : Nat} (hx : x ≠ 0) (σ : Lx) : (refN x σ).1 ≠ 0 := by
  unfold refN
  dsimp only
  split
  · exact hx
  · assumption
theorem step_id {T : List Nat} {σ : Lx} (hf : σ.1 ≠ 0) : stepN T σ = σ := by
  unfold stepN
  rw [if_pos hf]
theorem sg_f {T : List Nat} {σ : Lx} (h : LOK T σ) (hf : σ.1 ≠ 0) (c : Nat) : sgB T σ c = false := by
  unfold sgB
  rw [h.k0 hf]
  rfl
theorem nm_f {T : List Nat} {σ : Lx} (h : LOK T σ) (hf : σ.1 ≠ 0) (c : Nat) : nmB T σ c = false := by
  unfold nmB
  rw [h.k0 hf]
  rfl
theorem tn_f {T : List Nat} {σ : Lx} (h : LOK T σ) (hf : σ.1 ≠ 0) (lo hi : Nat) : tnB T lo hi σ = false := by
  unfold tnB
  rw [h.k0 hf]
  rfl
theorem tnS_id {T : List Nat} {σ : Lx} (h : LOK T σ) (hf : σ.1 ≠ 0) (lo hi : Nat) : tnS T lo hi σ = σ := by
  unfold tnS
  rw [tn_f h hf]
  exact ref_id h hf _
theorem tvS_id {T : List Nat} {σ : Lx} (h : LOK T σ) (hf : σ.1 ≠ 0) (n : Nat) : tvS T n σ = σ := by
  unfold tvS
  rw [nm_f h hf, nm_f h hf]
  exact ref_id h hf _
theorem tlS_id {T : List Nat} {σ : Lx} (h : LOK T σ) (hf : σ.1 ≠ 0) : tlS T σ = σ := by
  unfold tlS
  rw [sg_f h hf]
  exact ref_id h hf _
theorem taN_id {T : List Nat} {σ : Lx} (h : LOK T σ) (hf : σ.1 ≠ 0) (n : Nat) : (taN T n σ).2 = σ := by
  unfold taN
  rw [if_neg (by rw [h.k0 hf]; decide), tvS_id h hf, sg_f h hf, sg_f h hf, sg_f h hf, sg_f h hf]
  rfl
theorem tnS_0 {T : List Nat} {σ : Lx} {lo hi : Nat} (h : (tnS T lo hi σ).1 = 0) : tnB T lo hi σ = true := by
  cases e : tnB T lo hi σ with
  | true => rfl
  | false =>
    unfold tnS at h
    rw [e] at h
    exact absurd h (ref_f (by split <;> decide) σ)
theorem tnV_in {T : List Nat} {σ : Lx} {lo hi : Nat} (h : (tnS T lo hi σ).1 = 0) : lo ≤ tnV T lo hi σ ∧ tnV T lo hi σ < hi := by
  have e := tnS_0 h
  unfold tnV
  rw [if_pos e]
  unfold tnB at e
  have e2 := (Bool.and_eq_true _ _ ▸ e : _ ∧ _).2
  exact ⟨of_decide_eq_true (Bool.and_eq_true _ _ ▸ e2 : _ ∧ _).1, of_decide_eq_true (Bool.and_eq_true _ _ ▸ e2 : _ ∧ _).2⟩
theorem tnV_le {T : List Nat} {σ : Lx} {lo hi : Nat} : tnV T lo hi σ = lo ∨ (lo ≤ tnV T lo hi σ ∧ tnV T lo hi σ < hi) := by
  cases e : tnB T lo hi σ with
  | true =>
    refine Or.inr ?_
    unfold tnV
    rw [if_pos e]
    unfold tnB at e
    have e2 := (Bool.and_eq_true _ _ ▸ e : _ ∧ _).2
    exact ⟨of_decide_eq_true (Bool.and_eq_true _ _ ▸ e2 : _ ∧ _).1, of_decide_eq_true (Bool.and_eq_true _ _ ▸ e2 : _ ∧ _).2⟩
  | false =>
    refine Or.inl ?_
    unfold tnV
    rw [e]
    rfl
theorem stk {T : List Nat} {σ τ : Lx} (h : σ.1 ≠ 0 → τ = σ) (h0 : τ.1 = 0) : σ.1 = 0 := by
  by_cases z : σ.1 = 0
  · exact z
  · rw [h z] at h0
    exact h0
theorem tvS_0 {T : List Nat} {σ : Lx} {n : Nat} (h : (tvS T n σ).1 = 0) : tvV T σ = 0 ∨ (tvV T σ = 1 ∧ 2 ≤ n) := by
  unfold tvS at h
  unfold tvV
  by_cases e : nmB T σ 2 = true
  · rw [if_pos e] at h ⊢
    refine Or.inr ⟨rfl, ?_⟩
    by_cases hn : n < 2
    · rw [if_pos hn] at h
      exact absurd h (ref_f (by decide) σ)
    · omega
  · rw [if_neg e]
    exact Or.inl rfl
theorem LOK.tv {T : List Nat} {σ : Lx} (h : LOK T σ) (n : Nat) : LOK T (tvS T n σ) := by
  unfold tvS
  split
  · split
    · exact h.ref (by decide)
    · exact h.step
  · split
    · exact h.step
    · exact h.ref (by decide)
theorem LOK.tn {T : List Nat} {σ : Lx} (h : LOK T σ) (lo hi : Nat) : LOK T (tnS T lo hi σ) := by
  unfold tnS
  split
  · exact h.step
  · exact h.ref (by split <;> decide)
theorem LOK.tl {T : List Nat} {σ : Lx} (h : LOK T σ) : LOK T (tlS T σ) := by
  unfold tlS
  split
  · exact h.step
  · exact h.ref (by decide)
theorem LOK.ta {T : List Nat} {σ : Lx} (h : LOK T σ) (n : Nat) : LOK T (taN T n σ).2 := by
  unfold taN
  repeat' split
  · exact h.tn _ _
  · exact (h.tv n).step.tn _ _
  · exact (h.tv n).step.tn _ _
  · exact (h.tv n).step.tn _ _
  · exact (h.tv n).step.tv _
  · exact (h.tv n).step.tv _
  · exact h.tv n
theorem ok0 : ∀ n, n < 3 → ∀ z, z < 10 → okA n z = true := by decide
theorem ok1 : ∀ n, n < 3 → ∀ v, v < n → ∀ z, z < 10 → okA n (100 + 10 * v + z) = true := by decide
theorem ok2 : ∀ n, n < 3 → ∀ v, v < n → ∀ z, z < 10 → 1 ≤ z → okA n (200 + 10 * v + z) = true := by decide
theorem ok3 : ∀ n, n < 3 → ∀ v, v < n → ∀ z, z < 10 → okA n (300 + 10 * v + z) = true := by decide
theorem taN_ok {T : List Nat} {σ : Lx} {n : Nat} (hL : LOK T σ) (hn : n = 1 ∨ n = 2) (h : (taN T n σ).2.1 = 0) : okA n (taN T n σ).1 = true := by
  have hv := tvV_lt T σ
  have hn3 : n < 3 := by omega
  have s1 : (tvS T n σ).1 = 0 → tvV T σ < n := fun z => by have := tvS_0 z; omega
  have s2 : (stepN T (tvS T n σ)).1 = 0 → (tvS T n σ).1 = 0 := stk (T := T) (fun z => step_id z)
  have s3 : ∀ lo, (tnS T lo 10 (stepN T (tvS T n σ))).1 = 0 → tvV T σ < n := fun lo z => s1 (s2 (stk (T := T) (fun y => tnS_id (hL.tv n).step y lo 10) z))
  unfold taN at h ⊢
  by_cases h2 : σ.2.2.2 = 2
  · rw [if_pos h2] at h ⊢
    exact ok0 n hn3 _ (tnV_in h).2
  · rw [if_neg h2] at h ⊢
    by_cases c1 : sgB T (tvS T n σ) 45 = true
    · rw [if_pos c1] at h ⊢
      exact ok1 n hn3 _ (s3 _ h) _ (tnV_in h).2
    · rw [if_neg c1] at h ⊢
      by_cases c2 : sgB T (tvS T n σ) 47 = true
      · rw [if_pos c2] at h ⊢
        exact ok2 n hn3 _ (s3 _ h) _ (tnV_in h).2 (tnV_in h).1
      · rw [if_neg c2] at h ⊢
        by_cases c3 : sgB T (tvS T n σ) 43 = true
        · rw [if_pos c3] at h ⊢
          exact ok3 n hn3 _ (s3 _ h) _ (tnV_in h).2
        · rw [if_neg c3] at h ⊢
          by_cases c4 : sgB T (tvS T n σ) 38 = true
          · rw [if_pos c4] at h ⊢
            have h : (tvS T n (stepN T (tvS T n σ))).1 = 0 := h
            have w0 := tvS_0 h
            have w1 := s1 (s2 (stk (T := T) (fun y => tvS_id (hL.tv n).step y n) h))
            dsimp only
            by_cases c5 : tvV T (stepN T (tvS T n σ)) = tvV T σ
            · rw [if_pos c5]
              exact ok1 n hn3 _ w1 0 (by decide)
            · rw [if_neg c5]
              have e2 : n = 2 := by omega
              rw [e2]
              rfl
          · rw [if_neg c4] at h ⊢
            exact ok1 n hn3 _ (s1 h) 0 (by decide)
/-! a line -/
def tfN (T : List Nat) (σ : Lx) (P : Pg) : Lx × Pg := if 3 ≤ P.1.length then (refN 5 σ, P) else (tlS T (tnS T 1 3 (stepN T σ)), (P.1 ++ [tnV T 1 3 (stepN T σ)], P.2))
def tcN (T : List Nat) (σ : Lx) (P : Pg) : Lx × Pg := if 12 ≤ P.2.length then (refN 5 σ, P) else
  if (tnS T 0 P.1.length (tnS T 0 P.1.length (stepN T σ))).1 ≠ 0 then (tnS T 0 P.1.length (tnS T 0 P.1.length (stepN T σ)), P) else
  let x := tnV T 0 P.1.length (stepN T σ)
  let y := tnV T 0 P.1.length (tnS T 0 P.1.length (stepN T σ))
  let r := taN T (ar P x) (tnS T 0 P.1.length (tnS T 0 P.1.length (stepN T σ)))
  let w := if ar P y = 2 then taN T (ar P x) r.2 else (0, r.2)
  (tlS T w.2, (P.1, P.2 ++ [(x, y, r.1, w.1)]))
def lnN (T : List Nat) (σ : Lx) (P : Pg) : Lx × Pg := if nmB T σ 0 then tfN T σ P else if nmB T σ 1 then tcN T σ P else (refN 2 σ, P)
/-- the draft: behind a fault only its bounds are known -/
def DR (f : FF) (a : AA) (P : Pg) (σ : Lx) : Prop := AB (a 1 1) ∧ (∃ m n, f 1 1 4 = nI m ∧ m ≤ 3 ∧ f 1 1 5 = nI n ∧ n ≤ 12) ∧ (σ.1 = 0 → RC (f 1 1) (a 1 1) P ∧ WF P)
def FD (f : FF) (a : AA) (f' : FF) (a' : AA) : Prop := (∀ t i k, ¬ (t = 1 ∧ i = 1) → ¬ (t = 3 ∧ i = 0 ∧ 2 ≤ k) → f' t i k = f t i k) ∧ ∀ t i, ¬ (t = 1 ∧ i = 1) → a' t i = a t i
theorem FD.rf (f : FF) (a : AA) : FD f a f a := ⟨fun _ _ _ _ _ => rfl, fun _ _ _ => rfl⟩
theorem FD.tr {f f' f'' : FF} {a a' a'' : AA} (h : FD f a f' a') (h' : FD f' a' f'' a'') : FD f a f'' a'' := ⟨fun t i k p q => (h'.1 t i k p q).trans (h.1 t i k p q), fun t i p => (h'.2 t i p).trans (h.2 t i p)⟩
theorem FD.f3 {f f' f'' : FF} {a a' : AA} (h : FD f a f' a') (h' : F3 f' f'') : FD f a f'' a' := ⟨fun t i k p q => (h' t i k q).trans (h.1 t i k p q), h.2⟩
theorem FD.uf {f f' : FF} {a a' : AA} (h : FD f a f' a') (k : Nat) (x : Int32) : FD f a (upf f' 1 1 k x) a' := ⟨fun t i j p q => by rw [upf_o _ _ p]; exact h.1 t i j p q, h.2⟩
theorem FD.ua {f f' : FF} {a a' : AA} (h : FD f a f' a') (k n : Nat) (x : Int32) : FD f a f' (upa a' 1 1 k n x) := ⟨h.1, fun t i p => by rw [upa_o _ _ p]; exact h.2 t i p⟩
theorem LT.of {f f' : FF} {a a' : AA} {T : List Nat} {σ : Lx} (h : LT f a T σ) (e1 : f' 3 0 = f 3 0) (e2 : a' 3 0 = a 3 0) : LT f' a' T σ := by
  unfold LT
  rw [e1, e2]
  exact h
theorem DR.f3 {f f' : FF} {a : AA} {P : Pg} {σ τ : Lx} (h : DR f a P σ) (hF : F3 f f') (hs : τ.1 = 0 → σ.1 = 0) : DR f' a P τ := by
  unfold DR
  rw [hF.o (by decide)]
  exact ⟨h.1, h.2.1, fun z => h.2.2 (hs z)⟩
def sX3_tellFunction : SP := fun As f a Q => match As with
  | [.inr (.inr (3, 0, 0)), .inr (.inr (1, 1, 0))] => ∃ T σ P, LT f a T σ ∧ σ.1 = 0 ∧ DR f a P σ ∧ ∀ f' a', FD f a f' a' → LT f' a' T (tfN T σ P).1 → DR f' a' (tfN T σ P).2 (tfN T σ P).1 → Q none f' a'
  | _ => False
def eX3_tellFunction : En := (tX3_tellFunction, [(43, false, 2, sX3_refuse), (22, false, 1, sX3_step), (52, false, 3, sX3_takeNumber), (56, false, 1, sX3_takeLineEnd), (59, false, 2, sX1_appendFunction)], fdX3, [], 2)
theorem eokX3_tellFunction {g : Gm} (hg : GmOK g) : EnvOK g 3 RX3 cX3_tellFunction none eX3_tellFunction := ⟨okX3_tellFunction, fun _ _ _ _ h => as2_all (P := fun i v => CallOK g 3 RX3 i v.1 v.2.1 v.2.2) (l := eX3_tellFunction.2.1) ⟨callV_ok (t := 3) hg (mX3_refuse hg) kX3_refuse mlX3_43 qX3_refuse.1 qX3_refuse.2 ⟨by decide, by decide⟩ ⟨_, _, rfl⟩ shX3_refuse, callV_ok (t := 3) hg (mX3_step hg) kX3_step mlX3_22 qX3_step.1 qX3_step.2 ⟨by decide, by decide⟩ ⟨_, _, rfl⟩ shX3_step, callV_ok (t := 3) hg (mX3_takeNumber hg) kX3_takeNumber mlX3_52 qX3_takeNumber.1 qX3_takeNumber.2 ⟨by decide, by decide⟩ ⟨_, _, rfl⟩ shX3_takeNumber, callV_ok (t := 3) hg (mX3_takeLineEnd hg) kX3_takeLineEnd mlX3_56 qX3_takeLineEnd.1 qX3_takeLineEnd.2 ⟨by decide, by decide⟩ ⟨_, _, rfl⟩ shX3_takeLineEnd, callV_ok (t := 1) hg (mX1_appendFunction hg) kX1_appendFunction mlX3_59 qX1_appendFunction.1 qX1_appendFunction.2 ⟨by decide, by decide⟩ ⟨_, _, rfl⟩ shX1_appendFunction, trivial⟩ h, fdX3_ok, (fun _ _ h => by cases h), rfl⟩
theorem rX3_tellFunction (av : List AV) (f : FF) (a : AA) (post : PT) (h : sX3_tellFunction av f a post) (X : XT) (hX : Clo eX3_tellFunction post X) : X 0 (padL 3 (ent av)) [] f a := by
  unfold sX3_tellFunction at h
  split at h
  · obtain ⟨T, σ, P, hL, h0, hD, h⟩ := h
    obtain ⟨hR, hW⟩ := hD.2.2 h0
    have hl3 := hW.1
    have c1 : f 1 1 4 < 3 ↔ P.1.length < 3 := i_lt hR.1 (show (3 : Int32) = nI 3 from rfl) (by omega) (by decide)
    unfold tfN at h
    refine hX [] 60 _ _ _ _ _ ?_
    refine ⟨fun d => ?_, fun d => ?_⟩
    · have d := c1.mp d
      simp only [if_neg (Nat.not_le.mpr d)] at h
      refine ⟨T, σ, hL.1, hL.2.1, hL.2.2.1, hL.2.2.2.l0, fun f1 hF1 h1 => ?_⟩
      have hL1 := hL.stp hF1 h1
      obtain ⟨σ1, e1⟩ : ∃ σ1, σ1 = stepN T σ := ⟨_, rfl⟩
      rw [← e1] at hL1 h
      refine ⟨T, σ1, 1, 3, rfl, rfl, by decide, by decide, hL1, fun f2 hF2 hL2 => ?_⟩
      refine ⟨T, _, hL2, fun f3 hF3 hL3 => ?_⟩
      have hF := (hF1.tr hF2).tr hF3
      have e11 : f3 1 1 = f 1 1 := hF.o (by decide)
      refine ⟨P.1.length, by rw [e11]; exact hR.1, d, ?_⟩
      have hv : tnV T 1 3 σ1 = 1 ∨ tnV T 1 3 σ1 = 2 := by
        have := @tnV_le T σ1 1 3
        omega
      have hR3 : RC (f3 1 1) (a 1 1) P := by rw [e11]; exact hR
      have K := hR3.opn (tnV T 1 3 σ1)
      refine h _ _ (((FD.rf f a).f3 hF).uf 4 _ |>.ua 0 _ _) (hL3.of (upf_o _ _ (by decide)) (upa_o _ _ (by decide))) ⟨?_, ⟨P.1.length + 1, P.2.length, by rw [upf_s, if_pos rfl], by omega, ?_, hW.2.1⟩, fun _ => ⟨K, hW.opn d hv⟩⟩
      · intro i hi
        rw [upa_s, if_pos rfl, upd_s]
        by_cases z : i = P.1.length
        · rw [if_pos z]
          exact ⟨_, by omega, rfl⟩
        · rw [if_neg z]
          exact hD.1 i hi
      · exact K.2.1
    · have d : ¬ P.1.length < 3 := fun z => d (c1.mpr z)
      simp only [if_pos (Nat.not_lt.mp d)] at h
      refine ⟨5, σ, rfl, hL.2.2.1, hL.2.2.2.1, fun f1 hF h1 => ?_⟩
      exact h f1 a ((FD.rf f a).f3 hF) (hL.ref (by decide) hF h1) (hD.f3 hF (fun _ => h0))
  · exact h.elim
theorem shX3_tellFunction : ∀ As f a Q, sX3_tellFunction As f a Q → ∃ i r, As = .inr (.inr (3, i, 0)) :: r := by
  intro As f a Q h
  unfold sX3_tellFunction at h
  split at h
  · exact ⟨_, _, rfl⟩
  · exact h.elim
theorem mX3_tellFunction {g : Gm} (hg : GmOK g) : MetC g yX3_tellFunction cX3_tellFunction 3 none 3 sX3_tellFunction := by
  refine MetC_of hg eX3_tellFunction (eokX3_tellFunction hg) (by decide +kernel) (fun av f a post h => ?_) rX3_tellFunction
  unfold sX3_tellFunction at h
  split at h
  · exact Nat.le_of_ble_eq_true rfl
  · exact h.elim
