/-! the reference's run: an argument's worth -/
def sX5_argumentNow : SP := fun As f a Q => match As with
  | [.inr (.inr (5, 0, 0)), .inl c, .inl y] => ∃ P n k va vb, RM (a 5 0 0) P ∧ WF P ∧ c = nI n ∧ n < P.2.length ∧ y = nI k ∧ k < 2 ∧ ATm a va vb ∧ (ag P n k / 100 = 1 → ag P n k % 10 ≤ valN (ag P n k) va vb) ∧ (ag P n k / 100 = 2 → 0 < ag P n k % 10) ∧ Q (some (.inl (nI (worthN (ag P n k) va vb)))) f a
  | _ => False
def eX5_argumentNow : En := (tX5_argumentNow, [(142, false, 4, sX5_ofArgument)], fdX5, [], 0)
theorem eokX5_argumentNow {g : Gm} (hg : GmOK g) : EnvOK g 2 RX5 cX5_argumentNow (some .int) eX5_argumentNow := ⟨okX5_argumentNow, fun _ _ _ _ h => as2_all (P := fun i v => CallOK g 2 RX5 i v.1 v.2.1 v.2.2) (l := eX5_argumentNow.2.1) ⟨callV_ok (t := 5) hg (mX5_ofArgument hg) kX5_ofArgument mlX5_142 qX5_ofArgument.1 qX5_ofArgument.2 ⟨by decide, by decide⟩ ⟨_, _, rfl⟩ shX5_ofArgument, trivial⟩ h, fdX5_ok, (fun _ _ h => by cases h), rfl⟩
theorem rX5_argumentNow (av : List AV) (f : FF) (a : AA) (post : PT) (h : sX5_argumentNow av f a post) (X : XT) (hX : Clo eX5_argumentNow post X) : X 0 (padL 5 (ent av)) [] f a := by
  unfold sX5_argumentNow at h
  split at h
  · obtain ⟨P, n, k, va, vb, hR, hW, rfl, hn, rfl, hk, hA, w1, w2, h⟩ := h
    have n12 := hR.ix hW hn
    obtain ⟨q0, q1, q2⟩ := (hR.2.2.2 n hn).2.2 k hk
    have hx := hW.ag_lt (k := k) hn
    have hd := dig2 hW hn k
    obtain ⟨x, ex⟩ : ∃ x, x = ag P n k := ⟨_, rfl⟩
    rw [← ex] at hx hd q0 q1 q2 w1 w2 h
    have hv := hA.v hd q1
    have hv9 := valN_le (x := x) hA.2.2.1 hA.2.2.2
    have e0 : a 5 0 0 (4 + 8 * n + (2 + 3 * k + 0)) = nI (x / 100) := q0
    refine hX [] 60 _ _ _ _ _ ?_
    refine ⟨n, k, 1, rfl, rfl, rfl, by omega, inA 2 q1 rfl hd (by decide), n, k, 2, rfl, rfl, rfl, by omega, n, k, 0, rfl, rfl, rfl, by omega, ?_⟩
    have t0 : (a 5 0 0 (4 + 8 * n + (2 + 3 * k + 0))).toInt = ((x / 100 : Nat) : Int) := by rw [e0, nI_toInt (by omega)]
    unfold worthN at h
    refine ⟨⟨fun q => ?_, fun q => ?_, fun q => ?_, fun q => ?_, trivial⟩, fun q => ?_⟩
    · have q : x / 100 = 1 := by have := t0.symm.trans q; omega
      rw [if_pos q] at h
      refine pI h ?_
      dsimp only
      rw [hv, q2, pk_sub (w1 q)]
    · have q : x / 100 = 2 := by have := t0.symm.trans q; omega
      rw [if_neg (by omega), if_pos q] at h
      have w := w2 q
      refine ⟨?_, pI h ?_⟩
      · rw [q2]
        exact nI_ne0 w (by omega)
      · dsimp only
        rw [hv, q2, pk_div (by omega) w (by omega)]
    · have q : x / 100 = 3 := by have := t0.symm.trans q; omega
      rw [if_neg (by omega), if_neg (by omega), if_pos q] at h
      have es : a 5 0 21 (a 5 0 0 (4 + 8 * n + (2 + 3 * k + 1))).toNatClampNeg + a 5 0 0 (4 + 8 * n + (2 + 3 * k + 2)) = nI (valN x va vb + x % 10) := by rw [hv, q2, nI_add]
      have el : a 5 0 21 (a 5 0 0 (4 + 8 * n + (2 + 3 * k + 1))).toNatClampNeg + a 5 0 0 (4 + 8 * n + (2 + 3 * k + 2)) ≤ 999 ↔ valN x va vb + x % 10 ≤ 999 := i_le es (show (999 : Int32) = nI 999 from rfl) (by omega) (by decide)
      refine ⟨fun p => ?_, fun p => ?_⟩
      · rw [Nat.min_eq_left (el.mp p)] at h
        exact pI h es.symm
      · rw [Nat.min_eq_right (by have : ¬ valN x va vb + x % 10 ≤ 999 := fun z => p (el.mpr z); omega)] at h
        exact h
    · have q : x / 100 = 4 := by have := t0.symm.trans q; omega
      rw [if_neg (by omega), if_neg (by omega), if_neg (by omega), if_pos q] at h
      obtain ⟨ha, hb, ha9, hb9⟩ := hA
      have el : a 5 0 21 1 ≤ a 5 0 21 0 ↔ vb ≤ va := i_le hb ha (by omega) (by omega)
      refine ⟨inA 2 (n := 0) rfl rfl (by decide) (by decide), inA 2 (n := 1) rfl rfl (by decide) (by decide), ⟨fun p => ⟨inA 2 (n := 1) rfl rfl (by decide) (by decide), ?_⟩, fun p => ⟨inA 2 (n := 0) rfl rfl (by decide) (by decide), ?_⟩⟩⟩
      · rw [Nat.min_eq_right (el.mp p)] at h
        exact pI h hb.symm
      · rw [Nat.min_eq_left (by have : ¬ vb ≤ va := fun z => p (el.mpr z); omega)] at h
        exact pI h ha.symm
    · have q : ¬ (x / 100 = 1) ∧ ¬ (x / 100 = 2) ∧ ¬ (x / 100 = 3) ∧ ¬ (x / 100 = 4) := by
        have q := q
        rw [t0] at q
        omega
      rw [if_neg q.1, if_neg q.2.1, if_neg q.2.2.1, if_neg q.2.2.2] at h
      exact pI h q2.symm
  · exact h.elim
theorem shX5_argumentNow : ∀ As f a Q, sX5_argumentNow As f a Q → ∃ i r, As = .inr (.inr (5, i, 0)) :: r := by
  intro As f a Q h
  unfold sX5_argumentNow at h
  split at h
  · exact ⟨_, _, rfl⟩
  · exact h.elim
theorem mX5_argumentNow {g : Gm} (hg : GmOK g) : MetC g yX5_argumentNow cX5_argumentNow 5 (some .int) 2 sX5_argumentNow := by
  refine MetC_of hg eX5_argumentNow (eokX5_argumentNow hg) (by decide +kernel) (fun av f a post h => ?_) rX5_argumentNow
  unfold sX5_argumentNow at h
  split at h
  · exact Nat.le_of_ble_eq_true rfl
  · exact h.elim
