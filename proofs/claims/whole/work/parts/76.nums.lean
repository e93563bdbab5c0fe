theorem sr2 {T : List Nat} {σ : Lx} : srN T σ = 2 ↔ σ.2.2.2 = 2 := by
  unfold srN
  split
  · rename_i z
    rw [z]
    refine ⟨fun y => absurd y ?_, fun y => absurd y (by decide)⟩
    unfold sgN
    repeat' split
    all_goals decide
  · exact Iff.rfl
theorem sr_lt {T : List Nat} {σ : Lx} (h : LOK T σ) : srN T σ < 8 := by
  have hk := h.2.2.2.1
  unfold srN sgN
  repeat' split
  all_goals first | decide | omega
theorem LMT.s {f : FF} {a : AA} {T : List Nat} {σ : Lx} (h : LMT f a T σ) (h0 : σ.1 = 0) {n : Nat} (hn : n < 100) {x : Int32} (hx : x = nI n) : f 5 0 8 = x ↔ srN T σ = n := i_eq (h.2.1.2.2.2 h0).2.2.1 hx (by have := sr_lt h.2.2; omega) (by omega)
def sX5_readNumber : SP := fun As f a Q => match As with
  | [.inr (.inr (5, 0, 0)), .inl x, .inl y] => ∃ T σ lo hi, LMT f a T σ ∧ x = nI lo ∧ lo < 100 ∧ y = nI hi - 1 ∧ hi < 100 ∧ ∀ f' v, FL f f' → LMT f' a T (tnS T lo hi σ) → ((tnS T lo hi σ).1 = 0 → v = nI (tnV T lo hi σ)) → (∃ m, m < 100 ∧ v = nI m) → Q (some (.inl v)) f' a
  | _ => False
def eX5_readNumber : En := (tX5_readNumber, [(108, false, 3, sX5_requires), (71, true, 3, sX5_in), (115, false, 1, sX5_reads)], fdX5, [], 0)
theorem eokX5_readNumber {g : Gm} (hg : GmOK g) : EnvOK g 2 RX5 cX5_readNumber (some .int) eX5_readNumber := ⟨okX5_readNumber, fun _ _ _ _ h => as2_all (P := fun i v => CallOK g 2 RX5 i v.1 v.2.1 v.2.2) (l := eX5_readNumber.2.1) ⟨callV_ok (t := 5) hg (mX5_requires hg) kX5_requires mlX5_108 qX5_requires.1 qX5_requires.2 ⟨by decide, by decide⟩ ⟨_, _, rfl⟩ shX5_requires, callS_ok hg (mX5_in hg) kX5_in mlX5_71 qX5_in ⟨by decide, by decide⟩, callV_ok (t := 5) hg (mX5_reads hg) kX5_reads mlX5_115 qX5_reads.1 qX5_reads.2 ⟨by decide, by decide⟩ ⟨_, _, rfl⟩ shX5_reads, trivial⟩ h, fdX5_ok, (fun _ _ h => by cases h), rfl⟩
theorem rX5_readNumber (av : List AV) (f : FF) (a : AA) (post : PT) (h : sX5_readNumber av f a post) (X : XT) (hX : Clo eX5_readNumber post X) : X 0 (padL 4 (ent av)) [] f a := by
  unfold sX5_readNumber at h
  split at h
  · obtain ⟨T, σ, lo, hi, hM, rfl, hlo, rfl, hhi, h⟩ := h
    obtain ⟨R, eR⟩ : ∃ R, R = tnS T lo hi σ := ⟨_, rfl⟩
    rw [← eR] at h
    have hR : LOK T R := by rw [eR]; exact hM.2.2.tn lo hi
    have h49 : ∀ f1 τ, FL f f1 → LMT f1 a T τ → (τ.1 = 0 → τ = σ ∧ tnB T lo hi σ = true) → (τ.1 ≠ 0 → τ = R) → X 49 [some (.inr (.inr (5, 0, 0))), some (.inl (nI lo)), some (.inl (nI hi - 1)), none] [] f1 a := by
      intro f1 τ hF hM1 t0 t1
      refine hX [] 60 _ _ _ _ _ ?_
      refine ⟨fun q => ?_, fun q => ?_⟩
      · have q : τ.1 ≠ 0 := fun z => q (hM1.z.mpr z)
        have e := t1 q
        refine ⟨T, τ, hM1.1, hM1.2.1.1, hM1.2.2.l0, fun _ => hM1.2.1, fun z => absurd z q, fun f2 hF2 hM2 => ?_⟩
        rw [step_id q, e] at hM2
        rw [e] at q
        exact h f2 _ (hF.tr hF2) (hM1.go hF2 rfl hM2 hR) (fun z => absurd z q) ⟨0, by decide, rfl⟩
      · have q := hM1.z.mp q
        obtain ⟨rfl, hb⟩ := t0 q
        have k2 : τ.2.2.2 = 2 := by
          unfold tnB at hb
          rw [Bool.and_eq_true, decide_eq_true_eq] at hb
          exact hb.1
        have e9 := (hM1.2.1.2.2.2 q).2.2.2 k2
        have hnu := nuN_lt hM1.2.2 k2
        refine ⟨T, τ, hM1.1, hM1.2.1.1, hM1.2.2.l0, fun z => absurd q z, fun _ => (hM1.2.1.2.2.2 q).1, fun f2 hF2 hM2 => ?_⟩
        have es : R = stepN T τ := by
          rw [eR]
          unfold tnS
          rw [if_pos hb]
        rw [← es] at hM2
        refine h f2 _ (hF.tr hF2) (hM1.go hF2 rfl hM2 hR) (fun _ => ?_) ⟨nuN T τ, hnu, e9⟩
        unfold tnV
        rw [if_pos hb]
        exact e9
    have h25 : ∀ f1 τ, FL f f1 → LMT f1 a T τ → (τ.1 = 0 → τ = σ ∧ σ.2.2.2 = 2) → (τ.1 ≠ 0 → τ = R) → X 25 [some (.inr (.inr (5, 0, 0))), some (.inl (nI lo)), some (.inl (nI hi - 1)), none] [] f1 a := by
      intro f1 τ hF hM1 t0 t1
      refine hX [49] 60 _ _ _ _ _ ?_
      refine ⟨fun q => ?_, fun q => ?_⟩
      · have q : τ.1 ≠ 0 := fun z => q (hM1.z.mpr z)
        exact h49 f1 τ hF hM1 (fun z => absurd z q) t1
      · have q := hM1.z.mp q
        obtain ⟨rfl, k2⟩ := t0 q
        have e9 := (hM1.2.1.2.2.2 q).2.2.2 k2
        have hnu := nuN_lt hM1.2.2 k2
        have eb : b2i (decide ((nI lo).toInt64 ≤ (f1 5 0 9).toInt64 ∧ (f1 5 0 9).toInt64 ≤ (nI hi - 1).toInt64)) = b2i (tnB T lo hi τ) := by
          rw [e9]
          unfold tnB
          rw [decide_eq_true k2, Bool.true_and, ← Bool.decide_and]
          simp only [in32, le_pred (show hi < 1000 by omega), nI_leI (show lo < 2 ^ 31 by omega) (show nuN T τ < 2 ^ 31 by omega), nI_ltI (show nuN T τ < 2 ^ 31 by omega) (show hi < 2 ^ 31 by omega)]
        refine req (n := 3) (R := fun f' => X 49 [some (.inr (.inr (5, 0, 0))), some (.inl (nI lo)), some (.inl (nI hi - 1)), none] [] f' a) hM1 eb rfl (by decide) (by decide) (fun f2 hF2 hM2 => ?_)
        cases hb : tnB T lo hi τ with
        | true =>
          rw [hb] at hM2
          exact h49 f2 τ (hF.tr hF2) hM2 (fun _ => ⟨rfl, hb⟩) (fun z => absurd q z)
        | false =>
          rw [hb] at hM2
          have hM2 : LMT f2 a T (refN 3 τ) := hM2
          refine h49 f2 (refN 3 τ) (hF.tr hF2) hM2 (fun z => absurd z (ref_f (by decide) τ)) (fun _ => ?_)
          rw [eR]
          unfold tnS
          rw [hb, if_neg (by decide), if_pos k2]
    refine hX [25] 60 _ _ _ _ _ ?_
    refine ⟨fun q => ?_, fun q => ?_⟩
    · have q : σ.1 ≠ 0 := fun z => q (hM.z.mpr z)
      exact h25 f σ (FL.rf f) hM (fun z => absurd z q) (fun _ => by rw [eR, tnS_id hM.2.2 q])
    · have q := hM.z.mp q
      have cs := (hM.s q (n := 2) (by decide) (x := 2) rfl).trans sr2
      have K : ∀ (b : Bool) (g : Int32), g = b2i b → (b = true ↔ σ.2.2.2 = 2) → (¬ (g = 0 ∧ f 5 0 10 = 0) → X 25 [some (.inr (.inr (5, 0, 0))), some (.inl (nI lo)), some (.inl (nI hi - 1)), none] [] f a) ∧ (g = 0 ∧ f 5 0 10 = 0 → X 25 [some (.inr (.inr (5, 0, 0))), some (.inl (nI lo)), some (.inl (nI hi - 1)), none] [] (upf (upf f 5 0 10 2) 5 0 11 (f 5 0 7)) a) := fun b g hg hbk => by
        refine req (n := 2) (R := fun f' => X 25 [some (.inr (.inr (5, 0, 0))), some (.inl (nI lo)), some (.inl (nI hi - 1)), none] [] f' a) hM hg rfl (by decide) (by decide) (fun f2 hF2 hM2 => ?_)
        cases b with
        | true => exact h25 f2 σ hF2 hM2 (fun _ => ⟨rfl, hbk.mp rfl⟩) (fun z => absurd q z)
        | false =>
          have hM2 : LMT f2 a T (refN 2 σ) := hM2
          have nk : ¬ σ.2.2.2 = 2 := fun z => absurd (hbk.mpr z) (by decide)
          refine h25 f2 (refN 2 σ) hF2 hM2 (fun z => absurd z (ref_f (by decide) σ)) (fun _ => ?_)
          rw [eR]
          unfold tnS tnB
          rw [decide_eq_false nk, Bool.false_and, if_neg (by decide), if_neg nk]
      refine ⟨fun q2 => ?_, fun q2 => ?_⟩
      · exact K false 0 rfl ⟨fun z => absurd z (by decide), fun z => absurd (cs.mpr z) q2⟩
      · exact K true 1 rfl ⟨fun _ => cs.mp q2, fun _ => rfl⟩
  · exact h.elim
theorem shX5_readNumber : ∀ As f a Q, sX5_readNumber As f a Q → ∃ i r, As = .inr (.inr (5, i, 0)) :: r := by
  intro As f a Q h
  unfold sX5_readNumber at h
  split at h
  · exact ⟨_, _, rfl⟩
  · exact h.elim
theorem mX5_readNumber {g : Gm} (hg : GmOK g) : MetC g yX5_readNumber cX5_readNumber 4 (some .int) 2 sX5_readNumber := by
  refine MetC_of hg eX5_readNumber (eokX5_readNumber hg) (by decide +kernel) (fun av f a post h => ?_) rX5_readNumber
  unfold sX5_readNumber at h
  split at h
  · exact Nat.le_of_ble_eq_true rfl
  · exact h.elim
theorem wn2 {T : List Nat} {σ : Lx} : wnI T σ = 2 ↔ nmB T σ 3 = true := by
  have n0 := nm0 T σ
  have n1 := nm1 T σ
  have n2 := nm2 T σ
  have n3 := nm3 T σ
  unfold wnI
  constructor
  · intro h
    split at h
    · exact absurd h (by decide)
    · split at h
      · exact absurd h (by decide)
      · split at h
        · assumption
        · split at h <;> exact absurd h (by decide)
  · intro h
    have hh := n3.mp h
    rw [if_neg (fun z => by have := n0.mp z; omega), if_neg (fun z => by have := n1.mp z; omega), if_pos h]
theorem wn3 {T : List Nat} {σ : Lx} : wnI T σ = 3 ↔ nmB T σ 2 = true := by
  have n0 := nm0 T σ
  have n1 := nm1 T σ
  have n2 := nm2 T σ
  have n3 := nm3 T σ
  unfold wnI
  constructor
  · intro h
    split at h
    · exact absurd h (by decide)
    · split at h
      · exact absurd h (by decide)
      · split at h
        · exact absurd h (by decide)
        · split at h
          · assumption
          · exact absurd h (by decide)
  · intro h
    have hh := n2.mp h
    rw [if_neg (fun z => by have := n0.mp z; omega), if_neg (fun z => by have := n1.mp z; omega), if_neg (fun z => by have := n3.mp z; omega), if_pos h]
theorem wn0 {T : List Nat} {σ : Lx} : wnI T σ = 0 ↔ nmB T σ 0 = true := by
  unfold wnI
  constructor
  · intro h
    split at h
    · assumption
    · split at h
      · exact absurd h (by decide)
      · split at h
        · exact absurd h (by decide)
        · split at h <;> exact absurd h (by decide)
  · intro h
    rw [if_pos h]
theorem wn1 {T : List Nat} {σ : Lx} : wnI T σ = 1 ↔ nmB T σ 1 = true := by
  have n0 := nm0 T σ
  have n1 := nm1 T σ
  unfold wnI
  constructor
  · intro h
    split at h
    · exact absurd h (by decide)
    · split at h
      · assumption
      · split at h
        · exact absurd h (by decide)
        · split at h <;> exact absurd h (by decide)
  · intro h
    have hh := n1.mp h
    rw [if_neg (fun z => by have := n0.mp z; omega), if_pos h]
def sX5_readValue : SP := fun As f a Q => match As with
  | [.inr (.inr (5, 0, 0)), .inl x] => ∃ T σ n, LMT f a T σ ∧ x = nI n ∧ n < 3 ∧ ∀ f' v, FL f f' → LMT f' a T (tvS T n σ) → ((tvS T n σ).1 = 0 → v = tvV T σ) → v < 2 → Q (some (.inl (nI v))) f' a
  | _ => False
def eX5_readValue : En := (tX5_readValue, [(118, false, 1, sX5_wordNow), (108, false, 3, sX5_requires), (115, false, 1, sX5_reads)], fdX5, [], 0)
theorem eokX5_readValue {g : Gm} (hg : GmOK g) : EnvOK g 2 RX5 cX5_readValue (some .int) eX5_readValue := ⟨okX5_readValue, fun _ _ _ _ h => as2_all (P := fun i v => CallOK g 2 RX5 i v.1 v.2.1 v.2.2) (l := eX5_readValue.2.1) ⟨callV_ok (t := 5) hg (mX5_wordNow hg) kX5_wordNow mlX5_118 qX5_wordNow.1 qX5_wordNow.2 ⟨by decide, by decide⟩ ⟨_, _, rfl⟩ shX5_wordNow, callV_ok (t := 5) hg (mX5_requires hg) kX5_requires mlX5_108 qX5_requires.1 qX5_requires.2 ⟨by decide, by decide⟩ ⟨_, _, rfl⟩ shX5_requires, callV_ok (t := 5) hg (mX5_reads hg) kX5_reads mlX5_115 qX5_reads.1 qX5_reads.2 ⟨by decide, by decide⟩ ⟨_, _, rfl⟩ shX5_reads, trivial⟩ h, fdX5_ok, (fun _ _ h => by cases h), rfl⟩
theorem rX5_readValue (av : List AV) (f : FF) (a : AA) (post : PT) (h : sX5_readValue av f a post) (X : XT) (hX : Clo eX5_readValue post X) : X 0 (padL 3 (ent av)) [] f a := by
  unfold sX5_readValue at h
  split at h
  · obtain ⟨T, σ, n, hM, rfl, hn, h⟩ := h
    obtain ⟨R, eR⟩ : ∃ R, R = tvS T n σ := ⟨_, rfl⟩
    rw [← eR] at h
    have hR : LOK T R := by rw [eR]; exact hM.2.2.tv n
    have h59 : ∀ f1 τ w, FL f f1 → LMT f1 a T τ → stepN T τ = R → (R.1 = 0 → σ.1 = 0 ∧ w = wnI T σ) → X 59 [some (.inr (.inr (5, 0, 0))), some (.inl (nI n)), some (.inl w)] [] f1 a := by
      intro f1 τ w hF hM1 es hw
      refine hX [] 60 _ _ _ _ _ ?_
      refine ⟨T, τ, hM1.1, hM1.2.1.1, hM1.2.2.l0, fun _ => hM1.2.1, fun z => (hM1.2.1.2.2.2 z).1, fun f2 hF2 hM2 => ?_⟩
      rw [es] at hM2
      have hM3 := hM1.go hF2 rfl hM2 hR
      refine ⟨fun q => h f2 0 (hF.tr hF2) hM3 (fun z => ?_) (by decide), fun q => h f2 1 (hF.tr hF2) hM3 (fun z => ?_) (by decide)⟩
      · have := (hw z).2
        rw [this] at q
        unfold tvV
        rw [if_neg (fun y => q (wn3.mpr y))]
      · have := (hw z).2
        rw [this] at q
        unfold tvV
        rw [if_pos (wn3.mp q)]
    refine hX [32] 60 _ _ _ _ _ ?_
    refine ⟨T, σ, hM, fun w hw => ?_⟩
    by_cases h0 : σ.1 = 0
    · have ew := hw h0
      have f0 := hM.z.mpr h0
      have c2 : w = 2 ↔ nmB T σ 3 = true := by rw [ew]; exact wn2
      have c3 : w = 3 ↔ nmB T σ 2 = true := by rw [ew]; exact wn3
      have n2 := nm2 T σ
      have n3 := nm3 T σ
      have h32 : ∀ f1, FL f f1 → LMT f1 a T σ → (nmB T σ 3 = true ∨ nmB T σ 2 = true) → X 32 [some (.inr (.inr (5, 0, 0))), some (.inl (nI n)), some (.inl w)] [] f1 a := by
        intro f1 hF hM1 hor
        have ca : nI n = 2 ↔ n = 2 := nI_eq (b := 2) (by omega) (by decide)
        have K : ∀ (b : Bool) (g : Int32), g = b2i b → (b = true ↔ (nmB T σ 3 = true ∨ n = 2)) → (¬ (g = 0 ∧ f1 5 0 10 = 0) → X 59 [some (.inr (.inr (5, 0, 0))), some (.inl (nI n)), some (.inl w)] [] f1 a) ∧ (g = 0 ∧ f1 5 0 10 = 0 → X 59 [some (.inr (.inr (5, 0, 0))), some (.inl (nI n)), some (.inl w)] [] (upf (upf f1 5 0 10 3) 5 0 11 (f1 5 0 7)) a) := fun b g hg hbk => by
          refine req (n := 3) (R := fun f' => X 59 [some (.inr (.inr (5, 0, 0))), some (.inl (nI n)), some (.inl w)] [] f' a) hM1 hg rfl (by decide) (by decide) (fun f2 hF2 hM2 => ?_)
          cases b with
          | true =>
            refine h59 f2 σ w (hF.tr hF2) hM2 ?_ (fun _ => ⟨h0, ew⟩)
            rw [eR]
            unfold tvS
            rcases hbk.mp rfl with z | z
            · rw [if_neg (fun y => by have := n2.mp y; have := n3.mp z; omega), if_pos z]
            · rcases hor with y | y
              · rw [if_neg (fun x => by have := n2.mp x; have := n3.mp y; omega), if_pos y]
              · rw [if_pos y, if_neg (by omega)]
          | false =>
            have hM2 : LMT f2 a T (refN 3 σ) := hM2
            have nb : ¬ (nmB T σ 3 = true ∨ n = 2) := fun z => absurd (hbk.mpr z) (by decide)
            have y2 : nmB T σ 2 = true := hor.resolve_left (fun z => nb (Or.inl z))
            have eq : R = refN 3 σ := by
              rw [eR]
              unfold tvS
              rw [if_pos y2, if_pos (by omega)]
            refine h59 f2 (refN 3 σ) w (hF.tr hF2) hM2 (by rw [step_id (ref_f (by decide) σ), eq]) (fun z => ?_)
            rw [eq] at z
            exact absurd z (ref_f (by decide) σ)
        refine hX [59] 60 _ _ _ _ _ ?_
        refine ⟨fun q => absurd (hM1.z.mpr h0) q, fun _ => ⟨fun q => ?_, fun q => ⟨fun q2 => ?_, fun q2 => ?_⟩⟩⟩
        · exact K true 1 rfl ⟨fun _ => Or.inl (c2.mp q), fun _ => rfl⟩
        · exact K false 0 rfl ⟨fun z => absurd z (by decide), fun z => absurd z (fun z => z.elim (fun y => q (c2.mpr y)) (fun y => q2 (ca.mpr y)))⟩
        · exact K true 1 rfl ⟨fun _ => Or.inr (ca.mp q2), fun _ => rfl⟩
      have K : ∀ (b : Bool) (g : Int32), g = b2i b → (b = true ↔ (nmB T σ 3 = true ∨ nmB T σ 2 = true)) → (¬ (g = 0 ∧ f 5 0 10 = 0) → X 32 [some (.inr (.inr (5, 0, 0))), some (.inl (nI n)), some (.inl w)] [] f a) ∧ (g = 0 ∧ f 5 0 10 = 0 → X 32 [some (.inr (.inr (5, 0, 0))), some (.inl (nI n)), some (.inl w)] [] (upf (upf f 5 0 10 2) 5 0 11 (f 5 0 7)) a) := fun b g hg hbk => by
        refine req (n := 2) (R := fun f' => X 32 [some (.inr (.inr (5, 0, 0))), some (.inl (nI n)), some (.inl w)] [] f' a) hM hg rfl (by decide) (by decide) (fun f2 hF2 hM2 => ?_)
        cases b with
        | true => exact h32 f2 hF2 hM2 (hbk.mp rfl)
        | false =>
          have hM2 : LMT f2 a T (refN 2 σ) := hM2
          have nb : ¬ (nmB T σ 3 = true ∨ nmB T σ 2 = true) := fun z => absurd (hbk.mpr z) (by decide)
          have eq : R = refN 2 σ := by
            rw [eR]
            unfold tvS
            rw [if_neg (fun z => nb (Or.inr z)), if_neg (fun z => nb (Or.inl z))]
          refine hX [59] 60 _ _ _ _ _ ?_
          refine ⟨fun _ => ?_, fun q => absurd (hM2.z.mp q) (ref_f (by decide) σ)⟩
          refine h59 f2 (refN 2 σ) w hF2 hM2 (by rw [step_id (ref_f (by decide) σ), eq]) (fun z => ?_)
          rw [eq] at z
          exact absurd z (ref_f (by decide) σ)
      refine ⟨fun q => absurd f0 q, fun _ => ⟨fun q => ?_, fun q => ⟨fun q2 => ?_, fun q2 => ?_⟩⟩⟩
      · exact K true 1 rfl ⟨fun _ => Or.inl (c2.mp q), fun _ => rfl⟩
      · exact K false 0 rfl ⟨fun z => absurd z (by decide), fun z => absurd z (fun z => z.elim (fun y => q (c2.mpr y)) (fun y => q2 (c3.mpr y)))⟩
      · exact K true 1 rfl ⟨fun _ => Or.inr (c3.mp q2), fun _ => rfl⟩
    · have f0 : ¬ f 5 0 10 = 0 := fun z => h0 (hM.z.mp z)
      have eq : R = σ := by rw [eR, tvS_id hM.2.2 h0]
      have h32 : X 32 [some (.inr (.inr (5, 0, 0))), some (.inl (nI n)), some (.inl w)] [] f a := by
        refine hX [59] 60 _ _ _ _ _ ?_
        refine ⟨fun _ => ?_, fun q => absurd q f0⟩
        exact h59 f σ w (FL.rf f) hM (by rw [step_id h0, eq]) (fun z => absurd (by rw [← eq]; exact z) h0)
      exact ⟨fun _ => h32, fun q => absurd q f0⟩
  · exact h.elim
theorem shX5_readValue : ∀ As f a Q, sX5_readValue As f a Q → ∃ i r, As = .inr (.inr (5, i, 0)) :: r := by
  intro As f a Q h
  unfold sX5_readValue at h
  split at h
  · exact ⟨_, _, rfl⟩
  · exact h.elim
theorem mX5_readValue {g : Gm} (hg : GmOK g) : MetC g yX5_readValue cX5_readValue 3 (some .int) 2 sX5_readValue := by
  refine MetC_of hg eX5_readValue (eokX5_readValue hg) (by decide +kernel) (fun av f a post h => ?_) rX5_readValue
  unfold sX5_readValue at h
  split at h
  · exact Nat.le_of_ble_eq_true rfl
  · exact h.elim
