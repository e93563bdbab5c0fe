/-! the reference's run: which calls are made -/
theorem dig2 {P : Pg} (hW : WF P) {c : Nat} (hc : c < P.2.length) (k : Nat) : ag P c k / 10 % 10 < 2 := by
  obtain ⟨h1, h2, h3, h4⟩ := hW.2.2.2 c hc
  have a2 := hW.ar_fr hc
  have u : ∀ n, n < 3 → ∀ x, x < 500 → okA n x = true → x / 10 % 10 < 2 := by decide +kernel
  have v : ∀ x, okA (ar P (fr P c)) x = true → x / 10 % 10 < 2 := fun x z => by
    refine u _ (by omega) x ?_ z
    unfold okA at z
    exact of_decide_eq_true (Bool.and_eq_true _ _ ▸ z : _ ∧ _).1
  unfold ag agq
  split
  · exact v _ h3
  · split at h4
    · exact v _ h4
    · rw [h4]
      decide
def ATm (a : AA) (va vb : Nat) : Prop := a 5 0 21 0 = nI va ∧ a 5 0 21 1 = nI vb ∧ va ≤ 999 ∧ vb ≤ 999
theorem ATm.v {a : AA} {va vb : Nat} (h : ATm a va vb) {x : Nat} (hx : x / 10 % 10 < 2) {y : Int32} (hy : y = nI (x / 10 % 10)) : a 5 0 21 y.toNatClampNeg = nI (valN x va vb) := by
  rw [hy, nI_clamp (by omega)]
  unfold valN
  rcases (show x / 10 % 10 = 0 ∨ x / 10 % 10 = 1 by omega) with e | e
  · rw [e]
    exact h.1
  · rw [e]
    exact h.2.1
theorem valN_le {x va vb : Nat} (ha : va ≤ 999) (hb : vb ≤ 999) : valN x va vb ≤ 999 := by
  unfold valN
  split <;> assumption
def sX5_isMade : SP := fun As f a Q => match As with
  | [.inr (.inr (5, 0, 0)), .inl c] => ∃ P n va vb, RM (a 5 0 0) P ∧ WF P ∧ c = nI n ∧ n < P.2.length ∧ ATm a va vb ∧ Q (some (.inl (b2i (madeB P n va vb)))) f a
  | _ => False
def eX5_isMade : En := (tX5_isMade, [(139, false, 3, sX5_of), (142, false, 4, sX5_ofArgument)], fdX5, [], 1)
theorem eokX5_isMade {g : Gm} (hg : GmOK g) : EnvOK g 2 RX5 cX5_isMade (some .boolean) eX5_isMade := ⟨okX5_isMade, fun _ _ _ _ h => as2_all (P := fun i v => CallOK g 2 RX5 i v.1 v.2.1 v.2.2) (l := eX5_isMade.2.1) ⟨callV_ok (t := 5) hg (mX5_of hg) kX5_of mlX5_139 qX5_of.1 qX5_of.2 ⟨by decide, by decide⟩ ⟨_, _, rfl⟩ shX5_of, callV_ok (t := 5) hg (mX5_ofArgument hg) kX5_ofArgument mlX5_142 qX5_ofArgument.1 qX5_ofArgument.2 ⟨by decide, by decide⟩ ⟨_, _, rfl⟩ shX5_ofArgument, trivial⟩ h, fdX5_ok, (fun _ _ h => by cases h), rfl⟩
theorem rX5_isMade (av : List AV) (f : FF) (a : AA) (post : PT) (h : sX5_isMade av f a post) (X : XT) (hX : Clo eX5_isMade post X) : X 0 (padL 7 (ent av)) [] f a := by
  unfold sX5_isMade at h
  split at h
  · obtain ⟨P, n, va, vb, hR, hW, rfl, hn, hA, h⟩ := h
    have n12 := hR.ix hW hn
    have n3 := hW.1
    obtain ⟨r0, r1, rk⟩ := hR.2.2.2 n hn
    have ht := hW.to_lt hn
    have et := hR.arm hW r1 ht
    have a2 := hW.ar_to hn
    unfold madeB at h
    refine hX [4] 20 _ _ _ _ _ ?_
    refine forUp (n := ar P (to P n)) (Pr := fun k => ∀ z4 z5 z6, X 4 [some (.inr (.inr (5, 0, 0))), some (.inl (nI n)), some (.inl (b2i (allK (fun k => okM (ag P n k) va vb) k))), some (.inl (nI k)), z4, z5, z6] [] f a) ?_ ?_ 0 (Nat.zero_le _) none none none
    · intro k hk ih z4 z5 z6
      have hk2 : k < 2 := by omega
      obtain ⟨q0, q1, q2⟩ := rk k hk2
      have hx := hW.ag_lt (k := k) hn
      have hd := dig2 hW hn k
      obtain ⟨x, ex⟩ : ∃ x, x = ag P n k := ⟨_, rfl⟩
      have ih := ih (some (.inl (nI (x / 100)))) (some (.inl (nI (valN x va vb)))) (some (.inl (nI (x % 10))))
      rw [← nI_1, show allK (fun k => okM (ag P n k) va vb) (k + 1) = (allK (fun k => okM (ag P n k) va vb) k && okM (ag P n k) va vb) from rfl, ← ex] at ih
      rw [← ex] at hx hd q0 q1 q2
      have hv := hA.v hd q1
      have hv9 := valN_le (x := x) hA.2.2.1 hA.2.2.2
      have c0 : ∀ j, j < 10 → (nI (x / 100) = nI j ↔ x / 100 = j) := fun j hj => nI_eq (by omega) (by omega)
      have c1 : nI (valN x va vb) < nI (x % 10) ↔ valN x va vb < x % 10 := nI_ltI (by omega) (by omega)
      have c2 : nI (x % 10) ≤ nI 1 ↔ x % 10 ≤ 1 := nI_leI (by omega) (by decide)
      have c3 : nI (valN x va vb) ≤ nI 0 ↔ valN x va vb ≤ 0 := nI_leI (by omega) (by decide)
      obtain ⟨b, eb⟩ : ∃ b, b = allK (fun k => okM (ag P n k) va vb) k := ⟨_, rfl⟩
      rw [← eb] at ih ⊢
      refine hX [51] 60 _ _ _ _ _ ?_
      refine ⟨n, 1, rfl, rfl, by omega, inA 101 r1 rfl (by omega) (by decide), ⟨fun q => absurd ((i_le et rfl (by omega) (by omega)).mp q) (by omega), fun _ => ?_⟩⟩
      refine ⟨n, k, 0, rfl, rfl, rfl, by omega, n, k, 1, rfl, rfl, rfl, by omega, inA 2 q1 rfl hd (by decide), n, k, 2, rfl, rfl, rfl, by omega, ?_⟩
      have go : X 51 [some (.inr (.inr (5, 0, 0))), some (.inl (nI n)), some (.inl (b2i b)), some (.inl (nI k)), some (.inl (nI (x / 100))), some (.inl (nI (valN x va vb))), some (.inl (nI (x % 10)))] [] f a := by
        have h89 : (b && okM x va vb) = false → X 89 [some (.inr (.inr (5, 0, 0))), some (.inl (nI n)), some (.inl (b2i b)), some (.inl (nI k)), some (.inl (nI (x / 100))), some (.inl (nI (valN x va vb))), some (.inl (nI (x % 10)))] [] f a := fun z => by
          rw [z] at ih
          exact hX [4] 20 _ _ _ _ _ ih
        have h85 : (b && okM x va vb) = true → X 85 [some (.inr (.inr (5, 0, 0))), some (.inl (nI n)), some (.inl (b2i b)), some (.inl (nI k)), some (.inl (nI (x / 100))), some (.inl (nI (valN x va vb))), some (.inl (nI (x % 10)))] [] f a := fun z => by
          rw [z] at ih
          exact hX [4] 20 _ _ _ _ _ ih
        refine hX [68, 85, 89] 60 _ _ _ _ _ ?_
        refine ⟨fun q => h89 (by rw [b2i_e0.mp q, Bool.false_and]), fun q => ?_⟩
        have q := b2i_n0.mp q
        rw [q, Bool.true_and] at h85 h89
        rw [q]
        unfold okM at h85 h89
        have h68 : (decide (x / 100 = 1) && decide (valN x va vb < x % 10)) = false → X 68 [some (.inr (.inr (5, 0, 0))), some (.inl (nI n)), some (.inl (b2i true)), some (.inl (nI k)), some (.inl (nI (x / 100))), some (.inl (nI (valN x va vb))), some (.inl (nI (x % 10)))] [] f a := fun z => by
          rw [z, Bool.not_false, Bool.true_and] at h85 h89
          refine hX [85, 89] 60 _ _ _ _ _ ?_
          refine ⟨fun p => h85 (by rw [decide_eq_false (fun y => p ((c0 2 (by decide)).mpr y)), Bool.false_and]; rfl), fun p => ?_⟩
          have p := (c0 2 (by decide)).mp p
          rw [decide_eq_true p, Bool.true_and] at h85 h89
          refine ⟨fun p2 => h85 (by have p2 := c2.mp p2; rw [decide_eq_false (by omega), Bool.false_and]; rfl), fun p2 => ?_⟩
          have p2 : ¬ x % 10 ≤ 1 := fun y => p2 (c2.mpr y)
          rw [decide_eq_true (show 1 < x % 10 by omega), Bool.true_and] at h85 h89
          refine ⟨fun p3 => h89 (by have p3 := c3.mp p3; rw [decide_eq_true (by omega)]; rfl), fun p3 => h85 ?_⟩
          have p3 : ¬ valN x va vb ≤ 0 := fun y => p3 (c3.mpr y)
          rw [decide_eq_false (by omega)]
          rfl
        refine ⟨fun p => h68 (by rw [decide_eq_false (fun y => p ((c0 1 (by decide)).mpr y)), Bool.false_and]), fun p => ⟨fun p2 => h89 ?_, fun p2 => h68 ?_⟩⟩
        · rw [decide_eq_true ((c0 1 (by decide)).mp p), decide_eq_true (c1.mp p2)]
          rfl
        · rw [decide_eq_false (fun y => p2 (c1.mpr y)), Bool.and_false]
      have e0 : a 5 0 0 (4 + 8 * n + (2 + 3 * k + 0)) = nI (x / 100) := q0
      rw [← e0, ← hv, ← q2] at go
      exact go
    · intro z4 z5 z6
      refine hX [] 40 _ _ _ _ _ ?_
      exact ⟨n, 1, rfl, rfl, by omega, inA 101 r1 rfl (by omega) (by decide), ⟨fun _ => pB h rfl, fun q => absurd ((i_le et rfl (by omega) (by omega)).mpr (Nat.le_refl _)) q⟩⟩
  · exact h.elim
theorem shX5_isMade : ∀ As f a Q, sX5_isMade As f a Q → ∃ i r, As = .inr (.inr (5, i, 0)) :: r := by
  intro As f a Q h
  unfold sX5_isMade at h
  split at h
  · exact ⟨_, _, rfl⟩
  · exact h.elim
theorem mX5_isMade {g : Gm} (hg : GmOK g) : MetC g yX5_isMade cX5_isMade 7 (some .boolean) 2 sX5_isMade := by
  refine MetC_of hg eX5_isMade (eokX5_isMade hg) (by decide +kernel) (fun av f a post h => ?_) rX5_isMade
  unfold sX5_isMade at h
  split at h
  · exact Nat.le_of_ble_eq_true rfl
  · exact h.elim
