/-! Program: the calls that are made, worth, takes, removeCall -/
def mdB (P : Pg) (n va vb : Nat) : Nat → Bool := fun c => decide (fr P c = n) && madeB P c va vb
def sX1_callsMade : SP := fun As f a Q => match As with
  | [.inr (.inr (1, p, 0)), .inl x, .inl y, .inl z] => ∃ P n va vb, RC (f 1 p) (a 1 p) P ∧ WF P ∧ x = nI n ∧ n < 3 ∧ y = nI va ∧ va < 1000 ∧ z = nI vb ∧ vb < 1000 ∧ Q (some (.inl (nI (cnt (mdB P n va vb) P.2.length)))) f a
  | _ => False
def eX1_callsMade : En := (tX1_callsMade, [(74, false, 4, sX1_isMade), (67, true, 1, sX4_bit)], fdX1, [], 0)
theorem eokX1_callsMade {g : Gm} (hg : GmOK g) : EnvOK g 2 RX1 cX1_callsMade (some .int) eX1_callsMade := ⟨okX1_callsMade, fun _ _ _ _ h => as2_all (P := fun i v => CallOK g 2 RX1 i v.1 v.2.1 v.2.2) (l := eX1_callsMade.2.1) ⟨callV_ok (t := 1) hg (mX1_isMade hg) kX1_isMade mlX1_74 qX1_isMade.1 qX1_isMade.2 ⟨by decide, by decide⟩ ⟨_, _, rfl⟩ shX1_isMade, callN_ok (host := "FallingCalls") hg (mX4_bit hg) kX4_bit (nxX1_67 hg) qX4_bit ⟨by decide, by decide⟩, trivial⟩ h, fdX1_ok, (fun _ _ h => by cases h), rfl⟩
theorem rX1_callsMade (av : List AV) (f : FF) (a : AA) (post : PT) (h : sX1_callsMade av f a post) (X : XT) (hX : Clo eX1_callsMade post X) : X 0 (padL 6 (ent av)) [] f a := by
  unfold sX1_callsMade at h
  split at h
  · rename_i p x y z
    obtain ⟨P, n, va, vb, hR, hW, rfl, hn, rfl, hva, rfl, hvb, h⟩ := h
    have h12 := hW.l12
    have h3 := hW.l3
    refine hX [6] 90 _ _ _ _ _ ?_
    refine forUp (Pr := fun c => X 6 [some (.inr (.inr (1, p, 0))), some (.inl (nI n)), some (.inl (nI va)), some (.inl (nI vb)), some (.inl (nI (cnt (mdB P n va vb) c))), some (.inl (nI c))] [] f a) (n := P.2.length) (fun c hc next => ?_) ?_ 0 (Nat.zero_le _)
    · refine hX [6] 90 _ _ _ _ _ ?_
      refine ⟨fun q => ?_, fun q => ?_⟩
      · rw [hR.2.1] at q
        exact absurd q (nI_ge hc (by omega))
      · have hfr := hW.fr_lt hc
        rw [cnt_s, nI_succ] at next
        refine ⟨inA 12 rfl rfl (by omega) (by decide), fun q => ?_, fun q => ?_⟩
        · rw [hR.fr_i hW hc] at q
          rw [show mdB P n va vb c = false by simp only [mdB, show decide (fr P c = n) = false by simp; exact fun z => q (by rw [z]), Bool.false_and]] at next
          exact next
        · rw [hR.fr_i hW hc] at q
          have q : fr P c = n := (nI_eq (by omega) (by omega)).mp q
          have e1 : mdB P n va vb c = madeB P c va vb := by simp [mdB, q]
          rw [e1] at next
          refine ⟨P, c, va, vb, hR, hW, rfl, hc, rfl, hva, rfl, hvb, fun d => ?_, fun d => ?_⟩
          · rw [b2i_e0.mp d] at next
            exact next
          · rw [b2i_n0.mp d] at next
            exact next
    · refine hX [6] 90 _ _ _ _ _ ?_
      refine ⟨fun q => h, fun q => ?_⟩
      rw [hR.2.1] at q
      exact absurd (Int32.le_refl _) q
  · exact h.elim
theorem shX1_callsMade : ∀ As f a Q, sX1_callsMade As f a Q → ∃ i r, As = .inr (.inr (1, i, 0)) :: r := by
  intro As f a Q h
  unfold sX1_callsMade at h
  split at h
  · exact ⟨_, _, rfl⟩
  · exact h.elim
theorem mX1_callsMade {g : Gm} (hg : GmOK g) : MetC g yX1_callsMade cX1_callsMade 6 (some .int) 2 sX1_callsMade := by
  refine MetC_of hg eX1_callsMade (eokX1_callsMade hg) (by decide +kernel) (fun av f a post h => ?_) rX1_callsMade
  unfold sX1_callsMade at h
  split at h
  · exact Nat.le_of_ble_eq_true rfl
  · exact h.elim
/-- the (k+1)-th place at which p holds, from place i on, among d places -/
def nthU (p : Nat → Bool) : Nat → Nat → Nat → Nat
  | 0, _, _ => 0
  | d + 1, i, k => if p i then (if k = 0 then i else nthU p d (i + 1) (k - 1)) else nthU p d (i + 1) k
def sX1_callMade : SP := fun As f a Q => match As with
  | [.inr (.inr (1, p, 0)), .inl x, .inl y, .inl z, .inl w] => ∃ P n va vb k, RC (f 1 p) (a 1 p) P ∧ WF P ∧ x = nI n ∧ n < 3 ∧ y = nI va ∧ va < 1000 ∧ z = nI vb ∧ vb < 1000 ∧ w = nI k ∧ k < 1000 ∧ Q (some (.inl (nI (nthU (mdB P n va vb) P.2.length 0 k)))) f a
  | _ => False
def eX1_callMade : En := (tX1_callMade, [(74, false, 4, sX1_isMade)], fdX1, [], 0)
theorem eokX1_callMade {g : Gm} (hg : GmOK g) : EnvOK g 2 RX1 cX1_callMade (some .int) eX1_callMade := ⟨okX1_callMade, fun _ _ _ _ h => as2_all (P := fun i v => CallOK g 2 RX1 i v.1 v.2.1 v.2.2) (l := eX1_callMade.2.1) ⟨callV_ok (t := 1) hg (mX1_isMade hg) kX1_isMade mlX1_74 qX1_isMade.1 qX1_isMade.2 ⟨by decide, by decide⟩ ⟨_, _, rfl⟩ shX1_isMade, trivial⟩ h, fdX1_ok, (fun _ _ h => by cases h), rfl⟩
theorem rX1_callMade (av : List AV) (f : FF) (a : AA) (post : PT) (h : sX1_callMade av f a post) (X : XT) (hX : Clo eX1_callMade post X) : X 0 (padL 7 (ent av)) [] f a := by
  unfold sX1_callMade at h
  split at h
  · rename_i p x y z w
    obtain ⟨P, n, va, vb, k, hR, hW, rfl, hn, rfl, hva, rfl, hvb, rfl, hk, h⟩ := h
    have h12 := hW.l12
    have h3 := hW.l3
    refine hX [7] 90 _ _ _ _ _ ?_
    have key : ∀ d c k1, c + d = P.2.length → k1 < 1000 → post (some (.inl (nI (nthU (mdB P n va vb) d c k1)))) f a → X 7 [some (.inr (.inr (1, p, 0))), some (.inl (nI n)), some (.inl (nI va)), some (.inl (nI vb)), some (.inl (nI k)), some (.inl (nI k1)), some (.inl (nI c))] [] f a := by
      intro d
      induction d with
      | zero =>
        intro c k1 hc hk1 h
        rw [Nat.add_zero] at hc
        refine hX [7] 90 _ _ _ _ _ ?_
        refine ⟨fun q => h, fun q => ?_⟩
        rw [hR.2.1, hc] at q
        exact absurd (Int32.le_refl _) q
      | succ d ih =>
        intro c k1 hcd hk1 h
        have hc : c < P.2.length := by omega
        have hfr := hW.fr_lt hc
        refine hX [7] 90 _ _ _ _ _ ?_
        refine ⟨fun q => ?_, fun q => ?_⟩
        · rw [hR.2.1] at q
          exact absurd q (nI_ge hc (by omega))
        · have skip : mdB P n va vb c = false → X 7 [some (.inr (.inr (1, p, 0))), some (.inl (nI n)), some (.inl (nI va)), some (.inl (nI vb)), some (.inl (nI k)), some (.inl (nI k1)), some (.inl (nI c + 1))] [] f a := by
            intro hm
            rw [← nI_succ]
            refine ih (c + 1) k1 (by omega) hk1 ?_
            simpa [nthU, hm] using h
          refine ⟨inA 12 rfl rfl (by omega) (by decide), fun q => ?_, fun q => ?_⟩
          · rw [hR.fr_i hW hc] at q
            exact skip (by simp only [mdB, show decide (fr P c = n) = false by simp; exact fun z => q (by rw [z]), Bool.false_and])
          · rw [hR.fr_i hW hc] at q
            have q : fr P c = n := (nI_eq (by omega) (by omega)).mp q
            have e1 : mdB P n va vb c = madeB P c va vb := by simp [mdB, q]
            refine ⟨P, c, va, vb, hR, hW, rfl, hc, rfl, hva, rfl, hvb, fun e => ?_, fun e => ?_⟩
            · exact skip (e1.trans (b2i_e0.mp e))
            · have hm := e1.trans (b2i_n0.mp e)
              refine ⟨fun g => ?_, fun g => ?_⟩
              · have g : ¬ k1 = 0 := fun z => g (by rw [z]; rfl)
                have n1 := ih (c + 1) (k1 - 1) (by omega) (by omega) (by simpa [nthU, hm, g] using h)
                rw [nI_succ, show nI (k1 - 1) = nI k1 + (-1) from (sb_m1 (by omega)).symm] at n1
                exact n1
              · have g : k1 = 0 := (i_eq (b := 0) rfl rfl (i31 hk1) (by decide)).mp g
                refine pI h ?_
                simp [nthU, hm, g]
    exact key P.2.length 0 k (by omega) hk h
  · exact h.elim
theorem shX1_callMade : ∀ As f a Q, sX1_callMade As f a Q → ∃ i r, As = .inr (.inr (1, i, 0)) :: r := by
  intro As f a Q h
  unfold sX1_callMade at h
  split at h
  · exact ⟨_, _, rfl⟩
  · exact h.elim
theorem mX1_callMade {g : Gm} (hg : GmOK g) : MetC g yX1_callMade cX1_callMade 7 (some .int) 2 sX1_callMade := by
  refine MetC_of hg eX1_callMade (eokX1_callMade hg) (by decide +kernel) (fun av f a post h => ?_) rX1_callMade
  unfold sX1_callMade at h
  split at h
  · exact Nat.le_of_ble_eq_true rfl
  · exact h.elim
def sX1_worth : SP := fun As f a Q => match As with
  | [.inr (.inr (1, p, 0)), .inl x, .inl y, .inl z, .inl w] => ∃ n c k va vb, a 1 p 3 (2 * c + k) = nI n ∧ n < 500 ∧ x = nI c ∧ y = nI k ∧ 2 * c + k < 24 ∧ z = nI va ∧ va < 1000 ∧ w = nI vb ∧ vb < 1000 ∧ (n / 100 = 1 → n % 10 ≤ valN n va vb) ∧ (n / 100 = 2 → 0 < n % 10) ∧ Q (some (.inl (nI (worthN n va vb)))) f a
  | _ => False
def eX1_worth : En := (tX1_worth, [(45, false, 3, sX1_argumentAt), (57, true, 1, sX4_valueOf), (60, true, 1, sX4_numberOf), (53, true, 1, sX4_kindOf), (78, true, 2, sJ9_min)], fdX1, [], 0)
theorem eokX1_worth {g : Gm} (hg : GmOK g) : EnvOK g 1 RX1 cX1_worth (some .int) eX1_worth := ⟨okX1_worth, fun _ _ _ _ h => as2_all (P := fun i v => CallOK g 1 RX1 i v.1 v.2.1 v.2.2) (l := eX1_worth.2.1) ⟨callV_ok (t := 1) hg (mX1_argumentAt hg) kX1_argumentAt mlX1_45 qX1_argumentAt.1 qX1_argumentAt.2 ⟨by decide, by decide⟩ ⟨_, _, rfl⟩ shX1_argumentAt, callN_ok (host := "FallingCalls") hg (mX4_valueOf hg) kX4_valueOf (nxX1_57 hg) qX4_valueOf ⟨by decide, by decide⟩, callN_ok (host := "FallingCalls") hg (mX4_numberOf hg) kX4_numberOf (nxX1_60 hg) qX4_numberOf ⟨by decide, by decide⟩, callN_ok (host := "FallingCalls") hg (mX4_kindOf hg) kX4_kindOf (nxX1_53 hg) qX4_kindOf ⟨by decide, by decide⟩, callJ9_min_X1_78 hg, trivial⟩ h, fdX1_ok, (fun _ _ h => by cases h), rfl⟩
theorem min_i {x y : Nat} (hx : x < 2 ^ 31) (hy : y < 2 ^ 31) : (if nI y < nI x then nI y else nI x) = nI (min x y) := by
  by_cases h : y < x
  · rw [if_pos ((nI_ltI hy hx).mpr h), Nat.min_eq_right (by omega)]
  · rw [if_neg (fun z => h ((nI_ltI hy hx).mp z)), Nat.min_eq_left (by omega)]
theorem toI_n {n : Nat} (h : n < 2 ^ 31) : (nI n).toInt = (n : Int) := nI_toInt h
theorem rX1_worth (av : List AV) (f : FF) (a : AA) (post : PT) (h : sX1_worth av f a post) (X : XT) (hX : Clo eX1_worth post X) : X 0 (padL 8 (ent av)) [] f a := by
  unfold sX1_worth at h
  split at h
  · rename_i p x y z w
    obtain ⟨n, c, k, va, vb, e0, hn, rfl, rfl, hck, rfl, hva, rfl, hvb, hk1, hk2, h⟩ := h
    have b1 : n / 100 < 1000 := by omega
    have b2 : n / 10 % 10 < 1000 := by omega
    have b3 : n % 10 < 1000 := by omega
    refine hX [22] 90 _ _ _ _ _ ?_
    refine ⟨c, k, rfl, rfl, hck, n, by omega, e0, ?_⟩
    have main : ∀ v, v = valN n va vb → X 22 [some (.inr (.inr (1, p, 0))), some (.inl (nI c)), some (.inl (nI k)), some (.inl (nI va)), some (.inl (nI vb)), some (.inl (a 1 p 3 (2 * c + k))), none, none] [.inl (nI v)] f a := by
      intro v hv
      have hv9 : v < 1000 := by rw [hv]; unfold valN; split <;> omega
      refine hX [] 90 _ _ _ _ _ ?_
      refine ⟨n, by omega, e0, n, by omega, e0, ⟨fun q => ?_, fun q => ?_, fun q => ?_, fun q => ?_, trivial⟩, fun q => ?_⟩
      · rw [toI_n (by omega)] at q
        have q : n / 100 = 1 := by omega
        have := hk1 q
        refine pI h ?_
        dsimp only
        rw [pk_sub (by omega)]
        simp [worthN, q, hv]
      · rw [toI_n (by omega)] at q
        have q : n / 100 = 2 := by omega
        have := hk2 q
        refine ⟨fun d => ?_, fun d => ?_⟩
        · have d : n % 10 ≤ 0 := (i_le (b := 0) rfl rfl (i31 b3) (by decide)).mp d
          omega
        · refine ⟨fun z => ?_, pI h ?_⟩
          · exact d (by rw [z]; exact Int32.le_refl _)
          · dsimp only
            rw [pk_div (by omega) (by omega) (by omega)]
            simp [worthN, q, hv]
      · rw [toI_n (by omega)] at q
        have q : n / 100 = 3 := by omega
        refine pI h ?_
        have e9 := min_i (x := v + n % 10) (y := 999) (by omega) (by decide)
        rw [← nI_add] at e9
        refine Eq.trans ?_ e9.symm
        simp [worthN, q, hv]
      · rw [toI_n (by omega)] at q
        have q : n / 100 = 4 := by omega
        refine pI h ?_
        rw [min_i (by omega) (by omega)]
        simp [worthN, q]
      · rw [toI_n (by omega)] at q
        have q : n / 100 = 0 := by omega
        refine pI h ?_
        simp [worthN, q]
    refine ⟨fun d => ?_, fun d => ?_⟩
    · have d : ¬ n / 10 % 10 = 0 := fun z => d (by rw [z]; rfl)
      exact main vb (by simp [valN, d])
    · have d : n / 10 % 10 = 0 := (i_eq (b := 0) rfl rfl (i31 b2) (by decide)).mp d
      exact main va (by simp [valN, d])
  · exact h.elim
theorem shX1_worth : ∀ As f a Q, sX1_worth As f a Q → ∃ i r, As = .inr (.inr (1, i, 0)) :: r := by
  intro As f a Q h
  unfold sX1_worth at h
  split at h
  · exact ⟨_, _, rfl⟩
  · exact h.elim
theorem mX1_worth {g : Gm} (hg : GmOK g) : MetC g yX1_worth cX1_worth 8 (some .int) 1 sX1_worth := by
  refine MetC_of hg eX1_worth (eokX1_worth hg) (by decide +kernel) (fun av f a post h => ?_) rX1_worth
  unfold sX1_worth at h
  split at h
  · exact Nat.le_of_ble_eq_true rfl
  · exact h.elim
/-- whether argument k of call c may become x -/
def takesB (P : Pg) (c k x : Int32) : Bool := hasA P c k && (decide (0 ≤ x) && okA (ar P (fr P c.toNatClampNeg)) x.toNatClampNeg)
def sX1_takes : SP := fun As f a Q => match As with
  | [.inr (.inr (1, p, 0)), .inl c, .inl k, .inl x] => ∃ P, RC (f 1 p) (a 1 p) P ∧ WF P ∧ Q (some (.inl (b2i (takesB P c k x)))) f a
  | _ => False
def eX1_takes : En := (tX1_takes, [(49, false, 3, sX1_hasArgument), (53, true, 1, sX4_kindOf), (57, true, 1, sX4_valueOf), (60, true, 1, sX4_numberOf), (63, true, 3, sX4_argumentOf)], fdX1, [], 1)
theorem eokX1_takes {g : Gm} (hg : GmOK g) : EnvOK g 2 RX1 cX1_takes (some .boolean) eX1_takes := ⟨okX1_takes, fun _ _ _ _ h => as2_all (P := fun i v => CallOK g 2 RX1 i v.1 v.2.1 v.2.2) (l := eX1_takes.2.1) ⟨callV_ok (t := 1) hg (mX1_hasArgument hg) kX1_hasArgument mlX1_49 qX1_hasArgument.1 qX1_hasArgument.2 ⟨by decide, by decide⟩ ⟨_, _, rfl⟩ shX1_hasArgument, callN_ok (host := "FallingCalls") hg (mX4_kindOf hg) kX4_kindOf (nxX1_53 hg) qX4_kindOf ⟨by decide, by decide⟩, callN_ok (host := "FallingCalls") hg (mX4_valueOf hg) kX4_valueOf (nxX1_57 hg) qX4_valueOf ⟨by decide, by decide⟩, callN_ok (host := "FallingCalls") hg (mX4_numberOf hg) kX4_numberOf (nxX1_60 hg) qX4_numberOf ⟨by decide, by decide⟩, callN_ok (host := "FallingCalls") hg (mX4_argumentOf hg) kX4_argumentOf (nxX1_63 hg) qX4_argumentOf ⟨by decide, by decide⟩, trivial⟩ h, fdX1_ok, (fun _ _ h => by cases h), rfl⟩
theorem hasA_spec {P : Pg} (hW : WF P) {c k : Int32} (h : hasA P c k = true) : ∃ n m, c = nI n ∧ n < P.2.length ∧ k = nI m ∧ m < ar P (to P n) := by
  unfold hasA at h
  simp only [Bool.and_eq_true, decide_eq_true_eq] at h
  obtain ⟨⟨h1, h2⟩, h3, h4⟩ := h
  have h12 := hW.l12
  obtain ⟨n, hn, rfl⟩ := ge0 (Int32.not_lt.mpr h1)
  have hc : n < P.2.length := (nI_ltI hn (by omega)).mp h2
  obtain ⟨m, hm, rfl⟩ := ge0 (Int32.not_lt.mpr h3)
  rw [nI_clamp hn] at h4
  have hat := hW.ar_to hc
  exact ⟨n, m, rfl, hc, rfl, (nI_ltI hm (by omega)).mp h4⟩
theorem rX1_takes (av : List AV) (f : FF) (a : AA) (post : PT) (h : sX1_takes av f a post) (X : XT) (hX : Clo eX1_takes post X) : X 0 (padL 5 (ent av)) [] f a := by
  unfold sX1_takes at h
  split at h
  · rename_i p c k x
    obtain ⟨P, hR, hW, h⟩ := h
    have h12 := hW.l12
    have h3 := hW.l3
    refine hX [] 90 _ _ _ _ _ ?_
    refine ⟨P, hR, hW, fun q => ?_, fun q => ⟨fun d => ?_, fun d => ?_⟩⟩
    · exact pF h (by simp [takesB, b2i_e0.mp q])
    · have hA := b2i_n0.mp q
      obtain ⟨n, m, rfl, hc, rfl, hm⟩ := hasA_spec hW hA
      obtain ⟨y, hy, rfl⟩ := ge0 (Int32.not_lt.mpr d)
      have hfr := hW.fr_lt hc
      have haf := hW.ar_fr hc
      have b1 : y / 100 < 2 ^ 31 := by omega
      have b2 : y / 10 % 10 < 2 ^ 31 := by omega
      have b3 : y % 10 < 2 ^ 31 := by omega
      have et : takesB P (nI n) (nI m) (nI y) = okA (ar P (fr P n)) y := by
        simp only [takesB, hA, Bool.true_and, nI_clamp hy, nI_clamp (show n < 2 ^ 31 by omega), show decide (0 ≤ nI y) = true from decide_eq_true d]
      rw [et] at h
      refine ⟨inA 12 rfl rfl (by omega) (by decide), inA 3 (hR.fr_i hW hc) rfl (by omega) (by decide), y, hy, rfl, ⟨fun q => ?_, fun q => ?_, fun q => ?_, fun q => ?_, fun q => ?_, trivial⟩, fun q => ?_⟩
      · rw [toI_n b1] at q
        have q : y / 100 = 0 := by omega
        refine ⟨y, hy, rfl, fun d => ?_, fun d => ?_⟩
        · have d : ¬ y / 10 % 10 = 0 := fun z => d (by rw [z]; rfl)
          exact pF h (by simp [okA, q, d])
        · have d : y / 10 % 10 = 0 := (i_eq (b := 0) rfl rfl b2 (by decide)).mp d
          exact pT h (by simp [okA, q, d]; omega)
      · rw [toI_n b1] at q
        have q : y / 100 = 1 := by omega
        refine ⟨y, hy, rfl, fun d => ?_, fun d => ?_⟩
        · rw [hR.fr_i hW hc, hR.ar_i hW hfr, nI_leI (by omega) b2] at d
          exact pF h (by simp [okA, q]; omega)
        · rw [hR.fr_i hW hc, hR.ar_i hW hfr, nI_leI (by omega) b2] at d
          exact pT h (by simp [okA, q]; omega)
      · rw [toI_n b1] at q
        have q : y / 100 = 2 := by omega
        refine ⟨y, hy, rfl, fun d => ?_, fun d => ?_⟩
        · rw [hR.fr_i hW hc, hR.ar_i hW hfr, nI_leI (by omega) b2] at d
          exact pF h (by simp [okA, q]; omega)
        · rw [hR.fr_i hW hc, hR.ar_i hW hfr, nI_leI (by omega) b2] at d
          refine ⟨y, hy, rfl, fun e => ?_, fun e => ?_⟩
          · have e := (i_le (b := 0) rfl rfl b3 (by decide)).mp e
            exact pF h (by simp [okA, q]; omega)
          · have e : ¬ y % 10 ≤ 0 := fun z => e ((i_le (b := 0) rfl rfl b3 (by decide)).mpr z)
            exact pT h (by simp [okA, q]; omega)
      · rw [toI_n b1] at q
        have q : y / 100 = 3 := by omega
        refine ⟨y, hy, rfl, fun d => ?_, fun d => ?_⟩
        · rw [hR.fr_i hW hc, hR.ar_i hW hfr, nI_leI (by omega) b2] at d
          exact pF h (by simp [okA, q]; omega)
        · rw [hR.fr_i hW hc, hR.ar_i hW hfr, nI_leI (by omega) b2] at d
          exact pT h (by simp [okA, q]; omega)
      · rw [toI_n b1] at q
        have q : y / 100 = 4 := by omega
        refine ⟨fun d => ?_, fun d => ?_⟩
        · rw [hR.fr_i hW hc, hR.ar_i hW hfr] at d
          have d : ¬ ar P (fr P n) = 2 := fun z => d (by rw [z]; rfl)
          exact pF h (by simp [okA, q, d])
        · rw [hR.fr_i hW hc, hR.ar_i hW hfr] at d
          have d : ar P (fr P n) = 2 := (i_eq (b := 2) rfl rfl (by omega) (by decide)).mp d
          refine ⟨fun e => ?_, fun e => ?_⟩
          · have e : ¬ y = 400 := fun z => e (by rw [z]; rfl)
            exact pF h (by simp [okA, q, d, e])
          · have e : y = 400 := (i_eq (b := 400) rfl rfl hy (by decide)).mp e
            exact pT h (by simp [okA, q, d, e])
      · rw [toI_n b1] at q
        exact pF h (by simp [okA]; omega)
    · exact pF h (by simp only [takesB, decide_eq_false d, Bool.false_and, Bool.and_false])
  · exact h.elim
theorem shX1_takes : ∀ As f a Q, sX1_takes As f a Q → ∃ i r, As = .inr (.inr (1, i, 0)) :: r := by
  intro As f a Q h
  unfold sX1_takes at h
  split at h
  · exact ⟨_, _, rfl⟩
  · exact h.elim
theorem mX1_takes {g : Gm} (hg : GmOK g) : MetC g yX1_takes cX1_takes 5 (some .boolean) 2 sX1_takes := by
  refine MetC_of hg eX1_takes (eokX1_takes hg) (by decide +kernel) (fun av f a post h => ?_) rX1_takes
  unfold sX1_takes at h
  split at h
  · exact Nat.le_of_ble_eq_true rfl
  · exact h.elim

/-- the calls behind one move up -/
def sX1_removeCall : SP := fun As f a Q => match As with
  | [.inr (.inr (1, p, 0)), .inl x] => ∃ P n, RC (f 1 p) (a 1 p) P ∧ WF P ∧ x = nI n ∧ n < P.2.length ∧ ∀ f' a', Fr f a f' a' 1 p → RC (f' 1 p) (a' 1 p) (P.1, P.2.eraseIdx n) → a' 1 p 0 = a 1 p 0 → Q none f' a'
  | _ => False
def eX1_removeCall : En := (tX1_removeCall, [(45, false, 3, sX1_argumentAt), (41, false, 4, sX1_putArgument)], fdX1, [], 2)
theorem eokX1_removeCall {g : Gm} (hg : GmOK g) : EnvOK g 1 RX1 cX1_removeCall none eX1_removeCall := ⟨okX1_removeCall, fun _ _ _ _ h => as2_all (P := fun i v => CallOK g 1 RX1 i v.1 v.2.1 v.2.2) (l := eX1_removeCall.2.1) ⟨callV_ok (t := 1) hg (mX1_argumentAt hg) kX1_argumentAt mlX1_45 qX1_argumentAt.1 qX1_argumentAt.2 ⟨by decide, by decide⟩ ⟨_, _, rfl⟩ shX1_argumentAt, callV_ok (t := 1) hg (mX1_putArgument hg) kX1_putArgument mlX1_41 qX1_putArgument.1 qX1_putArgument.2 ⟨by decide, by decide⟩ ⟨_, _, rfl⟩ shX1_putArgument, trivial⟩ h, fdX1_ok, (fun _ _ h => by cases h), rfl⟩
def mvC (a : AA) (p c : Nat) : AA := upa (upa (upa (upa a 1 p 1 c (a 1 p 1 (c + 1))) 1 p 2 c (a 1 p 2 (c + 1))) 1 p 3 (2 * c + 0) (a 1 p 3 (2 * (c + 1) + 0))) 1 p 3 (2 * c + 1) (a 1 p 3 (2 * (c + 1) + 1))
/-- what stands while the calls move: those ahead of c have moved, the rest stands -/
def rmI (P : Pg) (n c p : Nat) (a : AA) : Prop := (∀ i, i < P.1.length → a 1 p 0 i = nI (ar P i)) ∧
  (∀ j, j < c → j < P.2.length - 1 → a 1 p 1 j = nI (fr (P.1, P.2.eraseIdx n) j) ∧ a 1 p 2 j = nI (to (P.1, P.2.eraseIdx n) j) ∧ a 1 p 3 (2 * j) = nI (ag (P.1, P.2.eraseIdx n) j 0) ∧ a 1 p 3 (2 * j + 1) = nI (ag (P.1, P.2.eraseIdx n) j 1)) ∧
  (∀ j, c ≤ j → j < P.2.length → a 1 p 1 j = nI (fr P j) ∧ a 1 p 2 j = nI (to P j) ∧ a 1 p 3 (2 * j) = nI (ag P j 0) ∧ a 1 p 3 (2 * j + 1) = nI (ag P j 1))
theorem cl_er {P : Pg} {n j : Nat} : cl (P.1, P.2.eraseIdx n) j = cl P (if j < n then j else j + 1) := by
  unfold cl
  simp only [List.getD, List.getElem?_eraseIdx]
  split <;> rfl
theorem mvC_ok {P : Pg} {n c p : Nat} {a : AA} (hn : n ≤ c) (hc : c + 1 < P.2.length) (h : rmI P n c p a) : rmI P n (c + 1) p (mvC a p c) := by
  obtain ⟨h0, h1, h2⟩ := h
  have hcl : cl (P.1, P.2.eraseIdx n) c = cl P (c + 1) := by rw [cl_er, if_neg (by omega)]
  have hq := h2 (c + 1) (by omega) hc
  unfold mvC
  refine ⟨fun i hi => ?_, fun j hj hj2 => ?_, fun j hj hj2 => ?_⟩
  · simp [upa_s]
    exact h0 i hi
  · rcases (show j < c ∨ j = c by omega) with z | rfl
    · have q := h1 j z hj2
      refine ⟨?_, ?_, ?_, ?_⟩
      · simp [upa_s, upd_s, show ¬ j = c by omega]; exact q.1
      · simp [upa_s, upd_s, show ¬ j = c by omega]; exact q.2.1
      · simp [upa_s, upd_s, show ¬ 2 * j = 2 * c + 1 by omega, show ¬ 2 * j = 2 * c by omega]; exact q.2.2.1
      · simp [upa_s, upd_s, show ¬ 2 * j + 1 = 2 * c by omega, show ¬ 2 * j = 2 * c by omega]; exact q.2.2.2
    · simp only [fr, to, ag, hcl]
      refine ⟨?_, ?_, ?_, ?_⟩
      · simp [upa_s, upd_s]; exact hq.1
      · simp [upa_s, upd_s]; exact hq.2.1
      · simp [upa_s, upd_s, show ¬ 2 * j = 2 * j + 1 by omega]; exact hq.2.2.1
      · simp [upa_s, upd_s]; exact hq.2.2.2
  · have q := h2 j (by omega) hj2
    refine ⟨?_, ?_, ?_, ?_⟩
    · simp [upa_s, upd_s, show ¬ j = c by omega]; exact q.1
    · simp [upa_s, upd_s, show ¬ j = c by omega]; exact q.2.1
    · simp [upa_s, upd_s, show ¬ 2 * j = 2 * c + 1 by omega, show ¬ 2 * j = 2 * c by omega]; exact q.2.2.1
    · simp [upa_s, upd_s, show ¬ 2 * j + 1 = 2 * c by omega, show ¬ 2 * j = 2 * c by omega]; exact q.2.2.2
theorem mvC_fr (a : AA) (p c : Nat) (f : FF) : Fr f a f (mvC a p c) 1 p := ((((Fr.rf f a 1 p).ua 1 _ _).ua 2 _ _).ua 3 _ _).ua 3 _ _
theorem rX1_removeCall (av : List AV) (f : FF) (a : AA) (post : PT) (h : sX1_removeCall av f a post) (X : XT) (hX : Clo eX1_removeCall post X) : X 0 (padL 3 (ent av)) [] f a := by
  unfold sX1_removeCall at h
  split at h
  · rename_i p x
    obtain ⟨P, n, hR, hW, rfl, hn, h⟩ := h
    have h12 := hW.l12
    have h3 := hW.l3
    have e5 : f 1 p 5 - 1 = nI (P.2.length - 1) := by
      rw [hR.2.1]
      exact pk_sub (b := 1) (by omega)
    refine hX [12] 90 _ _ _ _ _ ?_
    have key : ∀ d c a1, a1 1 p 0 = a 1 p 0 → c + d = P.2.length - 1 → n ≤ c → rmI P n c p a1 → Fr f a (upf f 1 p 5 (nI (P.2.length - 1))) a1 1 p → X 12 [some (.inr (.inr (1, p, 0))), some (.inl (nI n)), some (.inl (nI c))] [] (upf f 1 p 5 (nI (P.2.length - 1))) a1 := by
      intro d
      induction d with
      | zero =>
        intro c a1 ha0 hcd hnc hI hF
        refine hX [12] 90 _ _ _ _ _ ?_
        refine ⟨fun q => ?_, fun q => ?_⟩
        · refine h _ _ hF ⟨?_, ?_, hI.1, fun j hj => ?_⟩ ha0
          · rw [upf_s, if_neg (by decide)]; exact hR.1
          · rw [upf_s, if_pos rfl, List.length_eraseIdx, if_pos hn]
          · have hj : j < P.2.length - 1 := by
              have : j < (P.2.eraseIdx n).length := hj
              rw [List.length_eraseIdx, if_pos hn] at this
              exact this
            exact hI.2.1 j (by omega) hj
        · rw [upf_eq] at q
          exact absurd (nI_le (by omega) (by omega)) q
      | succ d ih =>
        intro c a1 ha0 hcd hnc hI hF
        have hc : c < P.2.length - 1 := by omega
        refine hX [12] 90 _ _ _ _ _ ?_
        have ec : nI c + 1 = nI (c + 1) := (nI_succ c).symm
        refine ⟨fun q => ?_, fun q => ?_⟩
        · rw [upf_eq] at q
          exact absurd q (nI_ge hc (by omega))
        · refine ⟨inA 12 ec rfl (by omega) (by decide), inA 12 rfl rfl (by omega) (by decide), inA 12 ec rfl (by omega) (by decide), inA 12 rfl rfl (by omega) (by decide), ?_⟩
          refine ⟨c + 1, 0, ec, rfl, by omega, c, 0, rfl, rfl, by omega, ?_⟩
          refine ⟨c + 1, 1, ec, rfl, by omega, c, 1, rfl, rfl, by omega, ?_⟩
          have n1 := ih (c + 1) (mvC a1 p c) (by unfold mvC; rw [upa_s, if_neg (by decide), upa_s, if_neg (by decide), upa_s, if_neg (by decide), upa_s, if_neg (by decide)]; exact ha0) (by omega) (by omega) (mvC_ok hnc (by omega) hI) (hF.tr (mvC_fr a1 p c _))
          rw [nI_succ] at n1
          have e1 : (nI c + 1).toNatClampNeg = c + 1 := by rw [ec, nI_clamp (by omega)]
          have e2 : (nI c).toNatClampNeg = c := nI_clamp (by omega)
          refine xE n1 rfl ?_
          unfold mvC
          dsimp only
          rw [e1, e2]
          simp only [upa_s, upd_s, if_pos, if_neg (show ¬ (2 : Nat) = 1 by decide), if_neg (show ¬ (3 : Nat) = 1 by decide), if_neg (show ¬ (3 : Nat) = 2 by decide), if_neg (show ¬ 2 * (c + 1) + 1 = 2 * c + 0 by omega)]
    rw [← e5] at key
    exact key (P.2.length - 1 - n) n a rfl (by omega) (Nat.le_refl _) ⟨hR.2.2.1, fun j hj hj2 => by
        have q := hR.2.2.2 j (by omega)
        simp only [fr, to, ag, cl_er, if_pos hj]
        exact q, fun j hj hj2 => hR.2.2.2 j hj2⟩ ((Fr.rf f a 1 p).uf 5 _)
  · exact h.elim
theorem shX1_removeCall : ∀ As f a Q, sX1_removeCall As f a Q → ∃ i r, As = .inr (.inr (1, i, 0)) :: r := by
  intro As f a Q h
  unfold sX1_removeCall at h
  split at h
  · exact ⟨_, _, rfl⟩
  · exact h.elim
theorem mX1_removeCall {g : Gm} (hg : GmOK g) : MetC g yX1_removeCall cX1_removeCall 3 none 1 sX1_removeCall := by
  refine MetC_of hg eX1_removeCall (eokX1_removeCall hg) (by decide +kernel) (fun av f a post h => ?_) rX1_removeCall
  unfold sX1_removeCall at h
  split at h
  · exact Nat.le_of_ble_eq_true rfl
  · exact h.elim
