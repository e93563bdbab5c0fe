/-! the reference: names, numbers, values, arguments of the text -/
theorem LMT.go {f f' : FF} {a a' : AA} {T : List Nat} {σ τ : Lx} (h : LMT f a T σ) (hF : FL f f') (ha : a' 5 0 4 = a 5 0 4) (hM : LM (f' 5 0) T τ) (hL : LOK T τ) : LMT f' a' T τ := ⟨⟨by rw [hF.at (by decide)]; exact h.1.1, by rw [ha]; exact h.1.2.1, h.1.2.2⟩, hM, hL⟩
theorem LMT.z {f : FF} {a : AA} {T : List Nat} {σ : Lx} (h : LMT f a T σ) : f 5 0 10 = 0 ↔ σ.1 = 0 := i_eq (b := 0) h.2.1.1 rfl (by have := h.2.2.1; omega) (by decide)
theorem LMT.zl {f : FF} {a : AA} {T : List Nat} {σ : Lx} (h : LMT f a T σ) : f 5 0 10 ≤ 0 ↔ σ.1 = 0 := (i_le (b := 0) h.2.1.1 rfl (by have := h.2.2.1; omega) (by decide)).trans ⟨fun z => by omega, fun z => by omega⟩
theorem LMT.rq {f : FF} {a : AA} {T : List Nat} {σ : Lx} (h : LMT f a T σ) {n : Nat} (hn : n < 10) (hn0 : n ≠ 0) (h0 : σ.1 = 0) : LMT (upf (upf f 5 0 10 (nI n)) 5 0 11 (f 5 0 7)) a T (refN n σ) := by
  have hF : FL f (upf (upf f 5 0 10 (nI n)) 5 0 11 (f 5 0 7)) := ((FL.rf f).up 10 (by decide) _).up 11 (by decide) _
  have e : (refN n σ).1 = n := by
    unfold refN
    rw [if_pos h0]
  refine h.go hF rfl ⟨?_, ?_, fun _ => ?_, fun z => absurd (e.symm.trans z) hn0⟩ (h.2.2.ref hn)
  · rw [e]
    rfl
  · exact h.2.1.2.1
  · exact (h.2.1.2.2.2 h0).2.1
theorem req {f : FF} {a : AA} {T : List Nat} {σ : Lx} {R : FF → Prop} (h : LMT f a T σ) {g c : Int32} {b : Bool} {n : Nat} (hg : g = b2i b) (hc : c = nI n) (hn : n < 10) (hn0 : n ≠ 0) (K : ∀ f', FL f f' → LMT f' a T (if b then σ else refN n σ) → R f') : (¬ (g = 0 ∧ f 5 0 10 = 0) → R f) ∧ (g = 0 ∧ f 5 0 10 = 0 → R (upf (upf f 5 0 10 c) 5 0 11 (f 5 0 7))) := by
  subst hc
  cases b with
  | true =>
    refine ⟨fun _ => K f (FL.rf f) h, fun y => absurd (hg.symm.trans y.1) (by decide)⟩
  | false =>
    refine ⟨fun y => K f (FL.rf f) ?_, fun y => K _ (((FL.rf f).up 10 (by decide) _).up 11 (by decide) _) (h.rq hn hn0 (h.z.mp y.2))⟩
    have hf : σ.1 ≠ 0 := fun z => y ⟨hg, h.z.mpr z⟩
    show LMT f a T (refN n σ)
    rw [ref_id h.2.2 hf]
    exact h
def wnI (T : List Nat) (σ : Lx) : Int32 := if nmB T σ 0 then 0 else if nmB T σ 1 then 1 else if nmB T σ 3 then 2 else if nmB T σ 2 then 3 else -4
theorem smA : strM 0 0 = 102 ∧ strM 0 1 = 117 ∧ strM 0 2 = 110 ∧ strM 1 0 = 99 ∧ strM 1 1 = 97 ∧ strM 1 2 = 108 ∧ strM 1 3 = 108 ∧ strM 2 0 = 98 ∧ strM 3 0 = 97 := by decide +kernel
theorem nm0 (T : List Nat) (σ : Lx) : nmB T σ 0 = true ↔ σ.2.2.2 = 1 ∧ σ.2.2.1 - σ.2.1 = 3 ∧ T.getD σ.2.1 0 = 102 ∧ T.getD (σ.2.1 + 1) 0 = 117 ∧ T.getD (σ.2.1 + 2) 0 = 110 := by
  unfold nmB
  rw [show strL 0 = 3 from rfl]
  simp only [allK, Bool.and_eq_true, decide_eq_true_eq, Bool.true_and, smA, Nat.add_zero, and_assoc]
theorem nm1 (T : List Nat) (σ : Lx) : nmB T σ 1 = true ↔ σ.2.2.2 = 1 ∧ σ.2.2.1 - σ.2.1 = 4 ∧ T.getD σ.2.1 0 = 99 ∧ T.getD (σ.2.1 + 1) 0 = 97 ∧ T.getD (σ.2.1 + 2) 0 = 108 ∧ T.getD (σ.2.1 + 3) 0 = 108 := by
  unfold nmB
  rw [show strL 1 = 4 from rfl]
  simp only [allK, Bool.and_eq_true, decide_eq_true_eq, Bool.true_and, smA, Nat.add_zero, and_assoc]
theorem nm2 (T : List Nat) (σ : Lx) : nmB T σ 2 = true ↔ σ.2.2.2 = 1 ∧ σ.2.2.1 - σ.2.1 = 1 ∧ T.getD σ.2.1 0 = 98 := by
  unfold nmB
  rw [show strL 2 = 1 from rfl]
  simp only [allK, Bool.and_eq_true, decide_eq_true_eq, Bool.true_and, smA, Nat.add_zero]
theorem nm3 (T : List Nat) (σ : Lx) : nmB T σ 3 = true ↔ σ.2.2.2 = 1 ∧ σ.2.2.1 - σ.2.1 = 1 ∧ T.getD σ.2.1 0 = 97 := by
  unfold nmB
  rw [show strL 3 = 1 from rfl]
  simp only [allK, Bool.and_eq_true, decide_eq_true_eq, Bool.true_and, smA, Nat.add_zero]
def sX5_wordNow : SP := fun As f a Q => match As with
  | [.inr (.inr (5, 0, 0))] => ∃ T σ, LMT f a T σ ∧ ∀ w, (σ.1 = 0 → w = wnI T σ) → Q (some (.inl w)) f a
  | _ => False
def eX5_wordNow : En := (tX5_wordNow, [(93, false, 2, sX5_byteAt)], fdX5, [], 0)
theorem eokX5_wordNow {g : Gm} (hg : GmOK g) : EnvOK g 1 RX5 cX5_wordNow (some .int) eX5_wordNow := ⟨okX5_wordNow, fun _ _ _ _ h => as2_all (P := fun i v => CallOK g 1 RX5 i v.1 v.2.1 v.2.2) (l := eX5_wordNow.2.1) ⟨callV_ok (t := 5) hg (mX5_byteAt hg) kX5_byteAt mlX5_93 qX5_byteAt.1 qX5_byteAt.2 ⟨by decide, by decide⟩ ⟨_, _, rfl⟩ shX5_byteAt, trivial⟩ h, fdX5_ok, (fun _ _ h => by cases h), rfl⟩
theorem rX5_wordNow (av : List AV) (f : FF) (a : AA) (post : PT) (h : sX5_wordNow av f a post) (X : XT) (hX : Clo eX5_wordNow post X) : X 0 (padL 4 (ent av)) [] f a := by
  unfold sX5_wordNow at h
  split at h
  · obtain ⟨T, σ, hM, h⟩ := h
    have hO := hM.1.2.2
    have hlen := hO.1
    obtain ⟨p, b, e6, hp, e7, hb⟩ := hM.2.1.2.1
    have hT := hM.1
    have n0 := nm0 T σ
    have n1 := nm1 T σ
    have n2 := nm2 T σ
    have n3 := nm3 T σ
    have tok : σ.1 = 0 → (f 5 0 8 = 1 ↔ σ.2.2.2 = 1) := fun h0 => by
      have e8 := (hM.2.1.2.2.2 h0).2.2.1
      have hk := hM.2.2.2.2.2.1
      have hs : srN T σ < 8 := by
        unfold srN sgN
        repeat' split
        all_goals first | decide | omega
      refine (i_eq (b := 1) e8 rfl (by omega) (by decide)).trans ?_
      unfold srN
      split
      · rename_i z
        rw [z]
        refine ⟨fun y => absurd y ?_, fun y => absurd y (by decide)⟩
        unfold sgN
        repeat' split
        all_goals decide
      · exact Iff.rfl
    have bs : σ.1 = 0 → b = σ.2.1 := fun h0 => by
      have := (hM.2.1.2.2.2 h0).2.1
      have hl := hM.2.2.2.1
      have hl2 := hM.2.2.2.2.1
      exact (nI_eq (by omega) (by omega)).mp (e7.symm.trans this)
    have ps : σ.1 = 0 → p = σ.2.2.1 := fun h0 => by
      have := (hM.2.1.2.2.2 h0).1
      have hl2 := hM.2.2.2.2.1
      exact (nI_eq (by omega) (by omega)).mp (e6.symm.trans this)
    have ln : σ.1 = 0 → ∀ n, n < 100 → (f 5 0 6 - f 5 0 7 = nI n ↔ σ.2.2.1 - σ.2.1 = n) := fun h0 n hn => by
      have hl := hM.2.2.2.1
      rw [e6, e7, bs h0, ps h0, pk_sub hl]
      have hl2 := hM.2.2.2.2.1
      exact nI_eq (by omega) (by omega)
    have by_ : σ.1 = 0 → ∀ j n, 0 < n → n < 128 → (byN T (b + j) = nI n ↔ σ.2.1 + j < T.length ∧ T.getD (σ.2.1 + j) 0 = n) := fun h0 j n h1 h2 => by
      rw [bs h0]
      unfold byN
      by_cases z : σ.2.1 + j < T.length
      · have := hO.2 _ z
        rw [if_pos z, nI_eq (by omega) (by omega)]
        exact ⟨fun y => ⟨z, y⟩, fun y => y.2⟩
      · rw [if_neg z]
        refine ⟨fun y => ?_, fun y => absurd y.1 z⟩
        have : (-1 : Int32).toInt = (nI n).toInt := congrArg Int32.toInt y
        rw [nI_toInt (by omega), show (-1 : Int32).toInt = -1 from by decide] at this
        omega
    have inl : σ.1 = 0 → ∀ j, σ.2.1 + j < σ.2.2.1 → σ.2.1 + j < T.length := fun h0 j hj => by
      have hl2 := hM.2.2.2.2.1
      omega
    have ei : ∀ j, f 5 0 7 + nI j = nI (b + j) := fun j => by rw [e7, nI_add]
    have h161 : (σ.1 = 0 → ¬ nmB T σ 0 = true ∧ ¬ nmB T σ 1 = true ∧ ¬ σ.2.2.1 - σ.2.1 = 1) → ∀ (z1 z2 : Int32) z3, X 161 [some (.inr (.inr (5, 0, 0))), some (.inl z1), some (.inl z2), z3] [] f a := fun z z1 z2 z3 => by
      refine hX [] 40 _ _ _ _ _ ?_
      refine ⟨fun _ => h _ (fun h0 => ?_), fun q => absurd rfl q⟩
      obtain ⟨q0, q1, q2⟩ := z h0
      unfold wnI
      rw [if_neg q0, if_neg q1, if_neg (fun y => q2 (n3.mp y).2.1), if_neg (fun y => q2 (n2.mp y).2.1)]
    have h101 : (σ.1 = 0 → ¬ nmB T σ 0 = true ∧ σ.2.2.2 = 1 ∧ ¬ σ.2.2.1 - σ.2.1 = 1) → ∀ z3, X 101 [some (.inr (.inr (5, 0, 0))), some (.inl (f 5 0 6 - f 5 0 7)), some (.inl (byN T b)), z3] [] f a := fun z z3 => by
      refine hX [161] 60 _ _ _ _ _ ?_
      refine ⟨fun q => h161 (fun h0 => ⟨(z h0).1, fun y => q ((ln h0 4 (by decide)).mpr (n1.mp y).2.1), (z h0).2.2⟩) _ _ _, fun q => ?_⟩
      refine ⟨fun q1 => h161 (fun h0 => ⟨(z h0).1, fun y => q1 ((by_ h0 0 99 (by decide) (by decide)).mpr ⟨inl h0 0 (by have := (n1.mp y).2.1; omega), (n1.mp y).2.2.1⟩), (z h0).2.2⟩) _ _ _, fun q1 => ?_⟩
      refine ⟨T, b + 1, hT, ei 1, by omega, ⟨fun q2 => h161 (fun h0 => ⟨(z h0).1, fun y => q2 ((by_ h0 1 97 (by decide) (by decide)).mpr ⟨inl h0 1 (by have := (n1.mp y).2.1; omega), (n1.mp y).2.2.2.1⟩), (z h0).2.2⟩) _ _ _, fun q2 => ?_⟩⟩
      refine ⟨T, b + 2, hT, ei 2, by omega, ⟨fun q3 => h161 (fun h0 => ⟨(z h0).1, fun y => q3 ((by_ h0 2 108 (by decide) (by decide)).mpr ⟨inl h0 2 (by have := (n1.mp y).2.1; omega), (n1.mp y).2.2.2.2.1⟩), (z h0).2.2⟩) _ _ _, fun q3 => ?_⟩⟩
      refine ⟨T, b + 3, hT, ei 3, by omega, ⟨fun q4 => h161 (fun h0 => ⟨(z h0).1, fun y => q4 ((by_ h0 3 108 (by decide) (by decide)).mpr ⟨inl h0 3 (by have := (n1.mp y).2.1; omega), (n1.mp y).2.2.2.2.2⟩), (z h0).2.2⟩) _ _ _, fun q4 => ?_⟩⟩
      refine ⟨fun q5 => absurd q5 (by decide), fun _ => h _ (fun h0 => ?_)⟩
      unfold wnI
      rw [if_neg (z h0).1, if_pos (n1.mpr ⟨(z h0).2.1, (ln h0 4 (by decide)).mp q, ((by_ h0 0 99 (by decide) (by decide)).mp q1).2, ((by_ h0 1 97 (by decide) (by decide)).mp q2).2, ((by_ h0 2 108 (by decide) (by decide)).mp q3).2, ((by_ h0 3 108 (by decide) (by decide)).mp q4).2⟩)]
    refine hX [101] 60 _ _ _ _ _ ?_
    refine ⟨fun q => ?_, fun q => ?_⟩
    · refine ⟨T, b, hT, e7, by omega, ⟨fun q1 => ?_, fun q1 => ?_⟩⟩
      · refine ⟨fun q2 => h101 (fun h0 => ⟨fun y => q2 ((ln h0 3 (by decide)).mpr (n0.mp y).2.1), (tok h0).mp q, fun y => q1 ((ln h0 1 (by decide)).mpr y)⟩) _, fun q2 => ?_⟩
        refine ⟨fun q3 => h101 (fun h0 => ⟨fun y => q3 ((by_ h0 0 102 (by decide) (by decide)).mpr ⟨inl h0 0 (by have := (n0.mp y).2.1; omega), (n0.mp y).2.2.1⟩), (tok h0).mp q, fun y => q1 ((ln h0 1 (by decide)).mpr y)⟩) _, fun q3 => ?_⟩
        refine ⟨T, b + 1, hT, ei 1, by omega, ⟨fun q4 => h101 (fun h0 => ⟨fun y => q4 ((by_ h0 1 117 (by decide) (by decide)).mpr ⟨inl h0 1 (by have := (n0.mp y).2.1; omega), (n0.mp y).2.2.2.1⟩), (tok h0).mp q, fun y => q1 ((ln h0 1 (by decide)).mpr y)⟩) _, fun q4 => ?_⟩⟩
        refine ⟨T, b + 2, hT, ei 2, by omega, ⟨fun q5 => h101 (fun h0 => ⟨fun y => q5 ((by_ h0 2 110 (by decide) (by decide)).mpr ⟨inl h0 2 (by have := (n0.mp y).2.1; omega), (n0.mp y).2.2.2.2⟩), (tok h0).mp q, fun y => q1 ((ln h0 1 (by decide)).mpr y)⟩) _, fun q5 => h _ (fun h0 => ?_)⟩⟩
        unfold wnI
        rw [if_pos (n0.mpr ⟨(tok h0).mp q, (ln h0 3 (by decide)).mp q2, ((by_ h0 0 102 (by decide) (by decide)).mp q3).2, ((by_ h0 1 117 (by decide) (by decide)).mp q4).2, ((by_ h0 2 110 (by decide) (by decide)).mp q5).2⟩)]
      · have l1 : σ.1 = 0 → σ.2.2.1 - σ.2.1 = 1 := fun h0 => (ln h0 1 (by decide)).mp q1
        have no : σ.1 = 0 → ¬ nmB T σ 0 = true ∧ ¬ nmB T σ 1 = true := fun h0 => ⟨fun y => by have := (n0.mp y).2.1; have := l1 h0; omega, fun y => by have := (n1.mp y).2.1; have := l1 h0; omega⟩
        refine ⟨fun q2 => ⟨fun q3 => h _ (fun h0 => ?_), fun q3 => h _ (fun h0 => ?_)⟩, fun q2 => h _ (fun h0 => ?_)⟩
        · unfold wnI
          rw [if_neg (no h0).1, if_neg (no h0).2, if_neg (fun y => q2 ((by_ h0 0 97 (by decide) (by decide)).mpr ⟨inl h0 0 (by have := l1 h0; omega), (n3.mp y).2.2⟩)), if_neg (fun y => q3 ((by_ h0 0 98 (by decide) (by decide)).mpr ⟨inl h0 0 (by have := l1 h0; omega), (n2.mp y).2.2⟩))]
        · have q3 := ((by_ h0 0 98 (by decide) (by decide)).mp q3).2
          unfold wnI
          rw [if_neg (no h0).1, if_neg (no h0).2, if_neg (fun y => by have := (n3.mp y).2.2; rw [Nat.add_zero] at q3; omega), if_pos (n2.mpr ⟨(tok h0).mp q, l1 h0, q3⟩)]
        · have q2 := ((by_ h0 0 97 (by decide) (by decide)).mp q2).2
          unfold wnI
          rw [if_neg (no h0).1, if_neg (no h0).2, if_pos (n3.mpr ⟨(tok h0).mp q, l1 h0, q2⟩)]
    · refine h _ (fun h0 => ?_)
      have nt : ¬ σ.2.2.2 = 1 := fun y => q ((tok h0).mpr y)
      unfold wnI
      rw [if_neg (fun y => nt (n0.mp y).1), if_neg (fun y => nt (n1.mp y).1), if_neg (fun y => nt (n3.mp y).1), if_neg (fun y => nt (n2.mp y).1)]
  · exact h.elim
theorem shX5_wordNow : ∀ As f a Q, sX5_wordNow As f a Q → ∃ i r, As = .inr (.inr (5, i, 0)) :: r := by
  intro As f a Q h
  unfold sX5_wordNow at h
  split at h
  · exact ⟨_, _, rfl⟩
  · exact h.elim
theorem mX5_wordNow {g : Gm} (hg : GmOK g) : MetC g yX5_wordNow cX5_wordNow 4 (some .int) 1 sX5_wordNow := by
  refine MetC_of hg eX5_wordNow (eokX5_wordNow hg) (by decide +kernel) (fun av f a post h => ?_) rX5_wordNow
  unfold sX5_wordNow at h
  split at h
  · exact Nat.le_of_ble_eq_true rfl
  · exact h.elim
