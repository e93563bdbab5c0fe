/-! the mathematical state as the reference's object holds it; its questions -/
def shM (w : Nat → Nat → Int32) (k : Nat) (s : Shp) : Prop := match s with
  | none => w 23 k = -4
  | some (l, n, cs) => w 23 k = nI l ∧ w 24 k = nI n ∧ ∀ i, i < 40 → w 25 (40 * k + i) = cs i
def tlM (u : Nat → Int32) (w : Nat → Nat → Int32) (T : List Nat) (ft : Nat) : Prop := u 5 = nI T.length ∧ (∀ i, i < T.length → w 4 i = nI (T.getD i 0)) ∧ u 10 = nI ft
def imM (w : Nat → Nat → Int32) (I : Nat → Option Pg) : Prop := ∀ k, k < 2 → w 2 k = b2i (I k).isSome ∧ ∀ P, I k = some P → RM (fun j => w 1 (101 * k + j)) P
def RepM (f : FF) (a : AA) (A : Ab) : Prop := RM (a 5 0 0) (aP A) ∧ tlM (f 5 0) (a 5 0) (aT A) (aFt A) ∧ imM (a 5 0) (aI A) ∧ (∀ k, k < 4 → shM (a 5 0) k (aS A k)) ∧ f 5 0 26 = nI (aTn A) ∧ f 5 0 20 = -4
/-- the system's objects are as they were -/
def S4 (f : FF) (a : AA) (f' : FF) (a' : AA) : Prop := ∀ t i, t ≠ 5 → f' t i = f t i ∧ a' t i = a t i
theorem S4.rf (f : FF) (a : AA) : S4 f a f a := fun _ _ _ => ⟨rfl, rfl⟩
theorem S4.tr {f f' f'' : FF} {a a' a'' : AA} (h : S4 f a f' a') (h' : S4 f' a' f'' a'') : S4 f a f'' a'' := fun t i q => ⟨(h' t i q).1.trans (h t i q).1, (h' t i q).2.trans (h t i q).2⟩
theorem Fr.s4 {f f' : FF} {a a' : AA} (h : Fr f a f' a' 5 0) : S4 f a f' a' := fun t i ht => h t i (fun q => ht q.1)
theorem FG.s4 {f f' : FF} {a a' : AA} (h : FG f a f' a') : S4 f a f' a' := fun t i ht => ⟨funext fun k => (h t i k (fun q => ht q.1)).1, funext fun k => (h t i k (fun q => ht q.1)).2⟩
theorem RepM.of {f f' : FF} {a a' : AA} {A : Ab} (h : RepM f a A) (h5 : f' 5 0 5 = f 5 0 5) (h10 : f' 5 0 10 = f 5 0 10) (h26 : f' 5 0 26 = f 5 0 26) (h20 : f' 5 0 20 = f 5 0 20) (ha : ∀ k, k ∈ [0, 1, 2, 4, 23, 24, 25] → a' 5 0 k = a 5 0 k) : RepM f' a' A := by
  obtain ⟨r1, ⟨r2, r3, r4⟩, r5, r6, r7, r8⟩ := h
  refine ⟨by rw [ha 0 (by decide)]; exact r1, ⟨by rw [h5]; exact r2, by rw [ha 4 (by decide)]; exact r3, by rw [h10]; exact r4⟩, ?_, ?_, by rw [h26]; exact r7, by rw [h20]; exact r8⟩
  · intro k hk
    rw [ha 1 (by decide), ha 2 (by decide)]
    exact r5 k hk
  · intro k hk
    have := r6 k hk
    unfold shM at this ⊢
    rw [ha 23 (by decide), ha 24 (by decide), ha 25 (by decide)]
    exact this
theorem RepM.fg {f f' : FF} {a a' : AA} {A : Ab} (h : RepM f a A) (hF : FG f a f' a') : RepM f' a' A :=
  h.of (hF.st (by decide)).1 (hF.st (by decide)).1 (hF.st (by decide)).1 (hF.st (by decide)).1 (fun k hk => by
    have : ∀ k, k ∈ [0, 1, 2, 4, 23, 24, 25] → k < 12 ∨ 19 < k := by decide
    exact (hF.st (this k hk)).2)
theorem FG.rm {f f' : FF} {a a' : AA} (hF : FG f a f' a') {P : Pg} (h : RM (a 5 0 0) P) : RM (a' 5 0 0) P := by
  rw [(hF.st (k := 0) (by decide)).2]
  exact h
theorem FG.eo {f f' : FF} {a a' : AA} (hF : FG f a f' a') (h : f 5 0 20 = -4) : f' 5 0 20 = -4 := by
  rw [(hF.st (k := 20) (by decide)).1]
  exact h
theorem RepM.eo {f : FF} {a : AA} {A : Ab} (h : RepM f a A) : f 5 0 20 = -4 := h.2.2.2.2.2
theorem om_no : ∀ c : Nat, (none : Option Nat) = some c → c < 12 := fun c h => by cases h
theorem in_c {x y : Int32} {m : Int64} (e : m = y.toInt64) : b2i (decide ((0 : Int64) ≤ x.toInt64 ∧ x.toInt64 ≤ m)) = b2i (decide (0 ≤ x ∧ x ≤ y)) := by
  rw [e]
  simp only [in0]
theorem fM_oN (r : Option Nat) : fM r = oN r := by cases r <;> rfl
def sX5_isGraph : SP := fun As f a Q => match As with
  | [.inr (.inr (5, 0, 0)), .inl x] => ∃ P, RM (a 5 0 0) P ∧ WF P ∧ f 5 0 20 = -4 ∧ ∀ f' a', FG f a f' a' → GM (f' 5 0) (a' 5 0) (clo P) → Q (some (.inl (b2i (decide (0 ≤ x ∧ x < nI (clo P).length))))) f' a'
  | _ => False
def eX5_isGraph : En := (tX5_isGraph, [(192, false, 1, sX5_findGraphs), (71, true, 3, sX5_in)], fdX5, [], 1)
theorem eokX5_isGraph {g : Gm} (hg : GmOK g) : EnvOK g 5 RX5 cX5_isGraph (some .boolean) eX5_isGraph := ⟨okX5_isGraph, fun _ _ _ _ h => as2_all (P := fun i v => CallOK g 5 RX5 i v.1 v.2.1 v.2.2) (l := eX5_isGraph.2.1) ⟨callV_ok (t := 5) hg (mX5_findGraphs hg) kX5_findGraphs mlX5_192 qX5_findGraphs.1 qX5_findGraphs.2 ⟨by decide, by decide⟩ ⟨_, _, rfl⟩ shX5_findGraphs, callS_ok hg (mX5_in hg) kX5_in mlX5_71 qX5_in ⟨by decide, by decide⟩, trivial⟩ h, fdX5_ok, (fun _ _ h => by cases h), rfl⟩
theorem rX5_isGraph (av : List AV) (f : FF) (a : AA) (post : PT) (h : sX5_isGraph av f a post) (X : XT) (hX : Clo eX5_isGraph post X) : X 0 (padL 2 (ent av)) [] f a := by
  unfold sX5_isGraph at h
  split at h
  · rename_i x
    obtain ⟨P, hR, hW, eo, h⟩ := h
    have hw : WL (clo P) := clo_ok (okK_P hW)
    have hl : (clo P).length ≤ 729 := WL_len hw
    refine hX [] 40 _ _ _ _ _ ?_
    refine ⟨P, none, hR, hW, eo, om_no, fun f1 a1 hF hG => ?_⟩
    rw [cloM_none] at hG
    refine pB (h f1 a1 hF hG) ?_
    show _ = b2i (decide ((0 : Int64) ≤ x.toInt64 ∧ x.toInt64 ≤ (f1 5 0 18 - 1).toInt64))
    rw [hG.1]
    simp only [in0, le_pred (show (clo P).length < 1000 by omega)]
  · exact h.elim
theorem shX5_isGraph : ∀ As f a Q, sX5_isGraph As f a Q → ∃ i r, As = .inr (.inr (5, i, 0)) :: r := by
  intro As f a Q h
  unfold sX5_isGraph at h
  split at h
  · exact ⟨_, _, rfl⟩
  · exact h.elim
theorem mX5_isGraph {g : Gm} (hg : GmOK g) : MetC g yX5_isGraph cX5_isGraph 2 (some .boolean) 5 sX5_isGraph := by
  refine MetC_of hg eX5_isGraph (eokX5_isGraph hg) (by decide +kernel) (fun av f a post h => ?_) rX5_isGraph
  unfold sX5_isGraph at h
  split at h
  · exact Nat.le_of_ble_eq_true rfl
  · exact h.elim
theorem gt0 (L : List Gr) : gtB L 0 = fun g => idleK (ge L g).1 (ge L g).2.1 (ge L g).2.2.1 := by funext g; simp [gtB]
theorem gt1 (L : List Gr) : gtB L 1 = fun g => loopE (ge L g) := by funext g; simp [gtB]
theorem gt2 (L : List Gr) : gtB L 2 = fun g => !needB L g := by funext g; simp [gtB]
theorem gt3 (L : List Gr) : gtB L 3 = fun g => loopE (ge L g) && !needB L g := by funext g; simp [gtB]
def sX5_rule : SP := fun As f a Q => match As with
  | [.inr (.inr (5, 0, 0)), .inl x] => ∃ A, RepM f a A ∧ OKA A ∧ ∀ f' a', RepM f' a' A → S4 f a f' a' → Q (some (.inl (anRule A x))) f' a'
  | _ => False
def eX5_rule : En := (tX5_rule, [(192, false, 1, sX5_findGraphs), (201, false, 2, sX5_graphsThat), (204, false, 1, sX5_allEnd), (171, true, 1, sX5_flag), (208, false, 1, sX5_components)], fdX5, [], 0)
theorem eokX5_rule {g : Gm} (hg : GmOK g) : EnvOK g 6 RX5 cX5_rule (some .int) eX5_rule := ⟨okX5_rule, fun _ _ _ _ h => as2_all (P := fun i v => CallOK g 6 RX5 i v.1 v.2.1 v.2.2) (l := eX5_rule.2.1) ⟨callV_ok (t := 5) hg (mX5_findGraphs hg) kX5_findGraphs mlX5_192 qX5_findGraphs.1 qX5_findGraphs.2 ⟨by decide, by decide⟩ ⟨_, _, rfl⟩ shX5_findGraphs, callV_ok (t := 5) hg (mX5_graphsThat hg) kX5_graphsThat mlX5_201 qX5_graphsThat.1 qX5_graphsThat.2 ⟨by decide, by decide⟩ ⟨_, _, rfl⟩ shX5_graphsThat, callV_ok (t := 5) hg (mX5_allEnd hg) kX5_allEnd mlX5_204 qX5_allEnd.1 qX5_allEnd.2 ⟨by decide, by decide⟩ ⟨_, _, rfl⟩ shX5_allEnd, callS_ok hg (mX5_flag hg) kX5_flag mlX5_171 qX5_flag ⟨by decide, by decide⟩, callV_ok (t := 5) hg (mX5_components hg) kX5_components mlX5_208 qX5_components.1 qX5_components.2 ⟨by decide, by decide⟩ ⟨_, _, rfl⟩ shX5_components, trivial⟩ h, fdX5_ok, (fun _ _ h => by cases h), rfl⟩
theorem rX5_rule (av : List AV) (f : FF) (a : AA) (post : PT) (h : sX5_rule av f a post) (X : XT) (hX : Clo eX5_rule post X) : X 0 (padL 2 (ent av)) [] f a := by
  unfold sX5_rule at h
  split at h
  · rename_i x
    obtain ⟨A, hA, hO, h⟩ := h
    have hW := hO.1
    have n3 := hW.1
    have g0 : ∀ f1 a1, FG f a f1 a1 → post (some (.inl (anRule A x))) f1 a1 := fun f1 a1 hF => h f1 a1 (hA.fg hF) hF.s4
    unfold anRule at g0
    refine hX [] 90 _ _ _ _ _ ?_
    refine ⟨⟨fun q => ?_, fun q => ?_, fun q => ?_, fun q => ?_, fun q => ?_, fun q => ?_, fun q => ?_, fun q => ?_, trivial⟩, fun q => ?_⟩
    · rw [selI_in 0 (sw q) (Nat.le_of_ble_eq_true rfl)] at g0
      exact ⟨inA 101 (n := 3) rfl rfl (by decide) (by decide), pI (g0 f a (FG.rf f a)) hA.1.1.symm⟩
    · rw [selI_in 1 (sw q) (Nat.le_of_ble_eq_true rfl)] at g0
      exact ⟨inA 101 (n := 100) rfl rfl (by decide) (by decide), pI (g0 f a (FG.rf f a)) hA.1.2.1.symm⟩
    · rw [selI_in 2 (sw q) (Nat.le_of_ble_eq_true rfl)] at g0
      refine ⟨aP A, none, hA.1, hW, hA.eo, om_no, fun f1 a1 hF hG => ?_⟩
      rw [cloM_none] at hG
      exact pI (g0 f1 a1 hF) hG.1.symm
    · rw [selI_in 3 (sw q) (Nat.le_of_ble_eq_true rfl)] at g0
      exact ⟨aP A, none, 0, rfl, by decide, hA.1, hW, hA.eo, om_no, fun f1 a1 hF => pI (g0 f1 a1 hF) (by rw [cloM_none, gt0]; rfl)⟩
    · rw [selI_in 4 (sw q) (Nat.le_of_ble_eq_true rfl)] at g0
      exact ⟨aP A, none, 1, rfl, by decide, hA.1, hW, hA.eo, om_no, fun f1 a1 hF => pI (g0 f1 a1 hF) (by rw [cloM_none, gt1]; rfl)⟩
    · rw [selI_in 5 (sw q) (Nat.le_of_ble_eq_true rfl)] at g0
      exact ⟨aP A, none, hA.1, hW, hA.eo, om_no, fun f1 a1 hF => pI (g0 f1 a1 hF) (by rw [cloM_none, b2i_b]; rfl)⟩
    · rw [selI_in 6 (sw q) (Nat.le_of_ble_eq_true rfl)] at g0
      exact ⟨aP A, hA.1, hW, hA.eo, pI (g0 f a (FG.rf f a)) (by rw [cb_cb hW n3]; rfl)⟩
    · rw [selI_in 7 (sw q) (Nat.le_of_ble_eq_true rfl)] at g0
      exact ⟨aP A, none, 2, rfl, by decide, hA.1, hW, hA.eo, om_no, fun f1 a1 hF => pI (g0 f1 a1 hF) (by rw [cloM_none, gt2]; rfl)⟩
    · rw [selI_out (q.imp id (fun z => by simp only [List.length_cons, List.length_nil]; omega))] at g0
      exact g0 f a (FG.rf f a)
  · exact h.elim
theorem shX5_rule : ∀ As f a Q, sX5_rule As f a Q → ∃ i r, As = .inr (.inr (5, i, 0)) :: r := by
  intro As f a Q h
  unfold sX5_rule at h
  split at h
  · exact ⟨_, _, rfl⟩
  · exact h.elim
theorem mX5_rule {g : Gm} (hg : GmOK g) : MetC g yX5_rule cX5_rule 2 (some .int) 6 sX5_rule := by
  refine MetC_of hg eX5_rule (eokX5_rule hg) (by decide +kernel) (fun av f a post h => ?_) rX5_rule
  unfold sX5_rule at h
  split at h
  · exact Nat.le_of_ble_eq_true rfl
  · exact h.elim
def sX5_fun : SP := fun As f a Q => match As with
  | [.inr (.inr (5, 0, 0)), .inl x, .inl w] => ∃ A, RepM f a A ∧ OKA A ∧ ∀ f' a', RepM f' a' A → S4 f a f' a' → Q (some (.inl (anFun A x w))) f' a'
  | _ => False
def eX5_fun : En := (tX5_fun, [(211, false, 2, sX5_isFun), (214, false, 2, sX5_callsFrom), (217, false, 2, sX5_componentNumber), (192, false, 1, sX5_findGraphs), (220, false, 2, sX5_loopOf), (171, true, 1, sX5_flag), (186, false, 2, sX5_reachOf)], fdX5, [], 0)
theorem eokX5_fun {g : Gm} (hg : GmOK g) : EnvOK g 6 RX5 cX5_fun (some .int) eX5_fun := ⟨okX5_fun, fun _ _ _ _ h => as2_all (P := fun i v => CallOK g 6 RX5 i v.1 v.2.1 v.2.2) (l := eX5_fun.2.1) ⟨callV_ok (t := 5) hg (mX5_isFun hg) kX5_isFun mlX5_211 qX5_isFun.1 qX5_isFun.2 ⟨by decide, by decide⟩ ⟨_, _, rfl⟩ shX5_isFun, callV_ok (t := 5) hg (mX5_callsFrom hg) kX5_callsFrom mlX5_214 qX5_callsFrom.1 qX5_callsFrom.2 ⟨by decide, by decide⟩ ⟨_, _, rfl⟩ shX5_callsFrom, callV_ok (t := 5) hg (mX5_componentNumber hg) kX5_componentNumber mlX5_217 qX5_componentNumber.1 qX5_componentNumber.2 ⟨by decide, by decide⟩ ⟨_, _, rfl⟩ shX5_componentNumber, callV_ok (t := 5) hg (mX5_findGraphs hg) kX5_findGraphs mlX5_192 qX5_findGraphs.1 qX5_findGraphs.2 ⟨by decide, by decide⟩ ⟨_, _, rfl⟩ shX5_findGraphs, callV_ok (t := 5) hg (mX5_loopOf hg) kX5_loopOf mlX5_220 qX5_loopOf.1 qX5_loopOf.2 ⟨by decide, by decide⟩ ⟨_, _, rfl⟩ shX5_loopOf, callS_ok hg (mX5_flag hg) kX5_flag mlX5_171 qX5_flag ⟨by decide, by decide⟩, callV_ok (t := 5) hg (mX5_reachOf hg) kX5_reachOf mlX5_186 qX5_reachOf.1 qX5_reachOf.2 ⟨by decide, by decide⟩ ⟨_, _, rfl⟩ shX5_reachOf, trivial⟩ h, fdX5_ok, (fun _ _ h => by cases h), rfl⟩
theorem rX5_fun (av : List AV) (f : FF) (a : AA) (post : PT) (h : sX5_fun av f a post) (X : XT) (hX : Clo eX5_fun post X) : X 0 (padL 3 (ent av)) [] f a := by
  unfold sX5_fun at h
  split at h
  · rename_i x w
    obtain ⟨A, hA, hO, h⟩ := h
    have hW := hO.1
    have n3 := hW.1
    have hw := clo_w hO
    have hl := WL_len hw
    have g0 : ∀ f1 a1, FG f a f1 a1 → post (some (.inl (anFun A x w))) f1 a1 := fun f1 a1 hF => h f1 a1 (hA.fg hF) hF.s4
    unfold anFun at g0
    refine hX [] 90 _ _ _ _ _ ?_
    refine ⟨aP A, hA.1, hW, ⟨fun d => ?_, fun d => ?_⟩⟩
    · have d : isF A x = true := b2i_n0.mp d
      rw [if_pos d] at g0
      obtain ⟨i, rfl, hi, hi3⟩ := isF_i hO d
      rw [nI_clamp (show i < 2 ^ 31 by omega)] at g0
      refine ⟨⟨fun q => ?_, fun q => ?_, fun q => ?_, fun q => ?_, fun q => ?_, trivial⟩, fun q => ?_⟩
      · rw [selI_in 0 (sw q) (Nat.le_of_ble_eq_true rfl)] at g0
        exact ⟨inA 101 rfl rfl (by omega) (by decide), pI (g0 f a (FG.rf f a)) (hA.1.arm hW rfl hi).symm⟩
      · rw [selI_in 1 (sw q) (Nat.le_of_ble_eq_true rfl)] at g0
        exact ⟨aP A, i, hA.1, hW, rfl, hi3, g0 f a (FG.rf f a)⟩
      · rw [selI_in 2 (sw q) (Nat.le_of_ble_eq_true rfl)] at g0
        have hle := fcN_le (clo (aP A)) i
        exact ⟨aP A, i, hA.1, hW, hA.eo, rfl, hi3, pI (g0 f a (FG.rf f a)) (by rw [cp_fc hW hi3, cb_cb hW (by omega)]; rfl)⟩
      · rw [selI_in 3 (sw q) (Nat.le_of_ble_eq_true rfl)] at g0
        refine ⟨aP A, none, hA.1, hW, hA.eo, om_no, fun f1 a1 hF hG => ?_⟩
        rw [cloM_none] at hG
        refine ⟨aP A, clo (aP A), i, hF.rm hA.1, hW, hF.eo hA.eo, hG, hw, rfl, hi3, ?_⟩
        rw [lo_lo hW]
        have hb : ∀ g, firstU (loopOfB (clo (aP A)) i) (clo (aP A)).length 0 = some g → g < 1000 := fun g hg => by have := (firstU_le hg).2.1; omega
        have g1 := g0 f1 a1 hF
        obtain ⟨r, er⟩ : ∃ r, r = firstU (loopOfB (clo (aP A)) i) (clo (aP A)).length 0 := ⟨_, rfl⟩
        have g1 : post (some (.inl (b2i (firstU (loopOfB (clo (aP A)) i) (clo (aP A)).length 0).isNone))) f1 a1 := g1
        rw [← er] at hb g1 ⊢
        refine ⟨fun z => ?_, fun z => ?_⟩
        · have z : ¬ r = none := fun y => z ((fM_none hb).mpr y)
          refine pI g1 ?_
          cases r with
          | none => exact absurd rfl z
          | some g => rfl
        · have z : r = none := (fM_none hb).mp z
          rw [z] at g1
          exact g1
      · rw [selI_in 4 (sw q) (Nat.le_of_ble_eq_true rfl)] at g0
        exact ⟨aP A, i, hA.1, hW, hA.eo, rfl, hi3, pI (g0 f a (FG.rf f a)) (by rw [rcN_come hW]; rfl)⟩
      · rw [selI_out (q.imp id (fun z => by simp only [List.length_cons, List.length_nil]; omega))] at g0
        exact g0 f a (FG.rf f a)
    · have d : isF A x = false := b2i_e0.mp d
      rw [if_neg (by rw [d]; decide)] at g0
      exact g0 f a (FG.rf f a)
  · exact h.elim
theorem shX5_fun : ∀ As f a Q, sX5_fun As f a Q → ∃ i r, As = .inr (.inr (5, i, 0)) :: r := by
  intro As f a Q h
  unfold sX5_fun at h
  split at h
  · exact ⟨_, _, rfl⟩
  · exact h.elim
theorem mX5_fun {g : Gm} (hg : GmOK g) : MetC g yX5_fun cX5_fun 3 (some .int) 6 sX5_fun := by
  refine MetC_of hg eX5_fun (eokX5_fun hg) (by decide +kernel) (fun av f a post h => ?_) rX5_fun
  unfold sX5_fun at h
  split at h
  · exact Nat.le_of_ble_eq_true rfl
  · exact h.elim
def sX5_call : SP := fun As f a Q => match As with
  | [.inr (.inr (5, 0, 0)), .inl x, .inl w] => ∃ A, RepM f a A ∧ OKA A ∧ ∀ f' a', RepM f' a' A → S4 f a f' a' → Q (some (.inl (anCall A x w))) f' a'
  | _ => False
def eX5_call : En := (tX5_call, [(223, false, 2, sX5_isCall), (71, true, 3, sX5_in), (192, false, 1, sX5_findGraphs), (139, false, 3, sX5_of), (161, false, 2, sX5_codeOf), (155, true, 3, sX5_slot)], fdX5, [(226, .inr (.inl 3))], 0)
theorem eokX5_call {g : Gm} (hg : GmOK g) : EnvOK g 5 RX5 cX5_call (some .int) eX5_call := ⟨okX5_call, fun _ _ _ _ h => as2_all (P := fun i v => CallOK g 5 RX5 i v.1 v.2.1 v.2.2) (l := eX5_call.2.1) ⟨callV_ok (t := 5) hg (mX5_isCall hg) kX5_isCall mlX5_223 qX5_isCall.1 qX5_isCall.2 ⟨by decide, by decide⟩ ⟨_, _, rfl⟩ shX5_isCall, callS_ok hg (mX5_in hg) kX5_in mlX5_71 qX5_in ⟨by decide, by decide⟩, callV_ok (t := 5) hg (mX5_findGraphs hg) kX5_findGraphs mlX5_192 qX5_findGraphs.1 qX5_findGraphs.2 ⟨by decide, by decide⟩ ⟨_, _, rfl⟩ shX5_findGraphs, callV_ok (t := 5) hg (mX5_of hg) kX5_of mlX5_139 qX5_of.1 qX5_of.2 ⟨by decide, by decide⟩ ⟨_, _, rfl⟩ shX5_of, callV_ok (t := 5) hg (mX5_codeOf hg) kX5_codeOf mlX5_161 qX5_codeOf.1 qX5_codeOf.2 ⟨by decide, by decide⟩ ⟨_, _, rfl⟩ shX5_codeOf, callS_ok hg (mX5_slot hg) kX5_slot mlX5_155 qX5_slot ⟨by decide, by decide⟩, trivial⟩ h, fdX5_ok, fun _ _ h => as2_all (P := fun i v => CstOK g RX5 i v ∧ vld v) (l := eX5_call.2.2.2.1) ⟨cstX5_226, trivial⟩ h, rfl⟩
theorem selI_n {l : List Int32} {d : Int32} {m : Nat} (hm : m < 1000) (hl : m < l.length) : selI (nI m) l d = l.getD m d := selI_in m (nI_toInt (by omega)) hl
theorem selI_no {w : Int32} {l : List Int32} {d : Int32} {n : Nat} (hn : n < 1000) (hl : l.length = n + 1) (h : ¬ (0 ≤ w ∧ w ≤ nI n)) : selI w l d = d := by
  refine selI_out ?_
  rw [hl]
  by_cases z : 0 ≤ w
  · have h : ¬ w ≤ nI n := fun y => h ⟨z, y⟩
    rw [Int32.le_iff_toInt_le, nI_toInt (by omega)] at h
    right
    omega
  · left
    rw [Int32.le_iff_toInt_le] at z
    have : (0 : Int32).toInt = 0 := by decide
    omega
theorem rX5_call (av : List AV) (f : FF) (a : AA) (post : PT) (h : sX5_call av f a post) (X : XT) (hX : Clo eX5_call post X) : X 0 (padL 3 (ent av)) [] f a := by
  unfold sX5_call at h
  split at h
  · rename_i x w
    obtain ⟨A, hA, hO, h⟩ := h
    have hW := hO.1
    have n3 := hW.1
    have hw := clo_w hO
    have hl := WL_len hw
    have g0 : ∀ f1 a1, FG f a f1 a1 → post (some (.inl (anCall A x w))) f1 a1 := fun f1 a1 hF => h f1 a1 (hA.fg hF) hF.s4
    unfold anCall at g0
    refine hX [] 90 _ _ _ _ _ ?_
    refine ⟨aP A, hA.1, hW, ⟨fun d => ?_, fun d => ?_⟩⟩
    · have d : isC A x = false := b2i_e0.mp d
      rw [if_neg (by rw [d]; decide)] at g0
      exact g0 f a (FG.rf f a)
    · have d : isC A x = true := b2i_n0.mp d
      rw [if_pos d] at g0
      obtain ⟨n, rfl, hn, hn12⟩ := isC_i hO d
      rw [nI_clamp (show n < 2 ^ 31 by omega)] at g0
      have ein : b2i (decide ((0 : Int64) ≤ w.toInt64 ∧ w.toInt64 ≤ (3 : Int64))) = b2i (decide (0 ≤ w ∧ w ≤ nI 3)) := in_c (by decide)
      refine ⟨fun d2 => ?_, fun d2 => ?_⟩
      · have d2 := of_decide_eq_true (b2i_n0.mp (fun z => d2 (ein.trans z)))
        obtain ⟨m, hm, rfl⟩ := ge0 (Int32.not_lt.mpr d2.1)
        have hm3 : m ≤ 3 := (nI_leI hm (by decide)).mp d2.2
        rw [selI_n (show m < 1000 by omega) (by simp only [List.length_cons, List.length_nil]; omega)] at g0
        obtain ⟨r0, r1, -⟩ := hA.1.2.2.2 n hn
        refine ⟨aP A, none, hA.1, hW, hA.eo, om_no, fun f1 a1 hF hG => ?_⟩
        rw [cloM_none] at hG
        have hR := hF.rm hA.1
        have g1 := g0 f1 a1 hF
        obtain ⟨r0, r1, -⟩ := hR.2.2.2 n hn
        rcases (show m = 0 ∨ m = 1 ∨ m = 2 ∨ m = 3 by omega) with rfl | rfl | rfl | rfl
        · exact ⟨fun q => absurd q (by decide), fun _ => ⟨n, 0, rfl, rfl, by omega, pI g1 r0.symm⟩⟩
        · exact ⟨fun q => absurd q (by decide), fun _ => ⟨n, 1, rfl, rfl, by omega, pI g1 r1.symm⟩⟩
        · exact ⟨fun _ => ⟨fun q => absurd rfl q, fun _ => ⟨aP A, n, hR, hW, rfl, hn, g1⟩⟩, fun q => absurd (by decide) q⟩
        · refine ⟨fun _ => ⟨fun _ => ?_, fun q => absurd q (by decide)⟩, fun q => absurd (by decide) q⟩
          have hf3 : fr (aP A) n < 3 := ((okK_P hW).2 n hn).1
          have ht3 : to (aP A) n < 3 := ((okK_P hW).2 n hn).2.1
          have hc81 := codeN_lt (aP A) n
          have ep : 81 * (3 * fr (aP A) n + to (aP A) n) + codeN (aP A) n = kpl (aP A) n := by unfold kpl pl; omega
          have hp : kpl (aP A) n < 729 := pl_lt hf3 ht3 hc81
          refine ⟨n, 0, rfl, rfl, by omega, n, 1, rfl, rfl, by omega, aP A, n, hR, hW, rfl, hn, fr (aP A) n, to (aP A) n, codeN (aP A) n, r0, r1, rfl, ?_⟩
          rw [ep]
          refine ⟨inA 729 rfl rfl hp (by decide), pI g1 ?_⟩
          dsimp only
          rw [nI_clamp (by omega), hG.2.2 _ hp, fM_oN]
          rfl
      · have d2 := of_decide_eq_false (b2i_e0.mp (ein.symm.trans d2))
        rw [selI_no (n := 3) (by decide) rfl d2] at g0
        exact g0 f a (FG.rf f a)
  · exact h.elim
theorem shX5_call : ∀ As f a Q, sX5_call As f a Q → ∃ i r, As = .inr (.inr (5, i, 0)) :: r := by
  intro As f a Q h
  unfold sX5_call at h
  split at h
  · exact ⟨_, _, rfl⟩
  · exact h.elim
theorem mX5_call {g : Gm} (hg : GmOK g) : MetC g yX5_call cX5_call 3 (some .int) 5 sX5_call := by
  refine MetC_of hg eX5_call (eokX5_call hg) (by decide +kernel) (fun av f a post h => ?_) rX5_call
  unfold sX5_call at h
  split at h
  · exact Nat.le_of_ble_eq_true rfl
  · exact h.elim
