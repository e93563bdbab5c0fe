/-! the reference's run: how many calls are made, which -/
def sX5_madeMany : SP := fun As f a Q => match As with
  | [.inr (.inr (5, 0, 0)), .inl x] => ∃ P i va vb, RM (a 5 0 0) P ∧ WF P ∧ x = nI i ∧ i < 3 ∧ ATm a va vb ∧ Q (some (.inl (nI (cnt (mdB P i va vb) P.2.length)))) f a
  | _ => False
def eX5_madeMany : En := (tX5_madeMany, [(139, false, 3, sX5_of), (254, false, 2, sX5_isMade), (171, true, 1, sX5_flag)], fdX5, [], 0)
theorem eokX5_madeMany {g : Gm} (hg : GmOK g) : EnvOK g 3 RX5 cX5_madeMany (some .int) eX5_madeMany := ⟨okX5_madeMany, fun _ _ _ _ h => as2_all (P := fun i v => CallOK g 3 RX5 i v.1 v.2.1 v.2.2) (l := eX5_madeMany.2.1) ⟨callV_ok (t := 5) hg (mX5_of hg) kX5_of mlX5_139 qX5_of.1 qX5_of.2 ⟨by decide, by decide⟩ ⟨_, _, rfl⟩ shX5_of, callV_ok (t := 5) hg (mX5_isMade hg) kX5_isMade mlX5_254 qX5_isMade.1 qX5_isMade.2 ⟨by decide, by decide⟩ ⟨_, _, rfl⟩ shX5_isMade, callS_ok hg (mX5_flag hg) kX5_flag mlX5_171 qX5_flag ⟨by decide, by decide⟩, trivial⟩ h, fdX5_ok, (fun _ _ h => by cases h), rfl⟩
theorem rX5_madeMany (av : List AV) (f : FF) (a : AA) (post : PT) (h : sX5_madeMany av f a post) (X : XT) (hX : Clo eX5_madeMany post X) : X 0 (padL 4 (ent av)) [] f a := by
  unfold sX5_madeMany at h
  split at h
  · obtain ⟨P, i, va, vb, hR, hW, rfl, hi, hA, h⟩ := h
    have n12 := hW.2.1
    refine hX [4] 20 _ _ _ _ _ ?_
    refine forUp (n := P.2.length) (Pr := fun c => X 4 [some (.inr (.inr (5, 0, 0))), some (.inl (nI i)), some (.inl (nI (cnt (mdB P i va vb) c))), some (.inl (nI c))] [] f a) ?_ ?_ 0 (Nat.zero_le _)
    · intro c hc ih
      obtain ⟨r0, -⟩ := hR.2.2.2 c hc
      have kf_ : fr P c < 3 := ((okK_P hW).2 c hc).1
      have es : a 5 0 0 (4 + 8 * c + 0) = nI i ↔ fr P c = i := i_eq r0 rfl (by omega) (by omega)
      rw [cnt_s, ← nI_1] at ih
      unfold mdB at ih
      refine hX [4] 60 _ _ _ _ _ ?_
      refine ⟨inA 101 (n := 100) rfl rfl (by decide) (by decide), ⟨fun q => absurd ((i_le hR.2.1 rfl (by omega) (by omega)).mp q) (by omega), fun _ => ?_⟩⟩
      refine ⟨c, 0, rfl, rfl, by omega, ⟨fun q => ?_, fun q => ⟨P, c, va, vb, hR, hW, rfl, hc, hA, ⟨fun q2 => ?_, fun q2 => ?_⟩⟩⟩⟩
      · rw [decide_eq_false (fun z => q (es.mpr z)), Bool.false_and] at ih
        exact ih
      · rw [b2i_e0.mp q2, Bool.and_false] at ih
        exact ih
      · rw [decide_eq_true (es.mp q), b2i_n0.mp q2] at ih
        exact ih
    · refine hX [] 40 _ _ _ _ _ ?_
      exact ⟨inA 101 (n := 100) rfl rfl (by decide) (by decide), ⟨fun _ => h, fun q => absurd ((i_le hR.2.1 rfl (by omega) (by omega)).mpr (Nat.le_refl _)) q⟩⟩
  · exact h.elim
theorem shX5_madeMany : ∀ As f a Q, sX5_madeMany As f a Q → ∃ i r, As = .inr (.inr (5, i, 0)) :: r := by
  intro As f a Q h
  unfold sX5_madeMany at h
  split at h
  · exact ⟨_, _, rfl⟩
  · exact h.elim
theorem mX5_madeMany {g : Gm} (hg : GmOK g) : MetC g yX5_madeMany cX5_madeMany 4 (some .int) 3 sX5_madeMany := by
  refine MetC_of hg eX5_madeMany (eokX5_madeMany hg) (by decide +kernel) (fun av f a post h => ?_) rX5_madeMany
  unfold sX5_madeMany at h
  split at h
  · exact Nat.le_of_ble_eq_true rfl
  · exact h.elim
def sX5_madeAt : SP := fun As f a Q => match As with
  | [.inr (.inr (5, 0, 0)), .inl x, .inl y] => ∃ P i va vb k, RM (a 5 0 0) P ∧ WF P ∧ x = nI i ∧ i < 3 ∧ ATm a va vb ∧ y = nI k ∧ k < cnt (mdB P i va vb) P.2.length ∧ Q (some (.inl (nI (nthU (mdB P i va vb) P.2.length 0 k)))) f a
  | _ => False
def eX5_madeAt : En := (tX5_madeAt, [(139, false, 3, sX5_of), (254, false, 2, sX5_isMade)], fdX5, [], 0)
theorem eokX5_madeAt {g : Gm} (hg : GmOK g) : EnvOK g 3 RX5 cX5_madeAt (some .int) eX5_madeAt := ⟨okX5_madeAt, fun _ _ _ _ h => as2_all (P := fun i v => CallOK g 3 RX5 i v.1 v.2.1 v.2.2) (l := eX5_madeAt.2.1) ⟨callV_ok (t := 5) hg (mX5_of hg) kX5_of mlX5_139 qX5_of.1 qX5_of.2 ⟨by decide, by decide⟩ ⟨_, _, rfl⟩ shX5_of, callV_ok (t := 5) hg (mX5_isMade hg) kX5_isMade mlX5_254 qX5_isMade.1 qX5_isMade.2 ⟨by decide, by decide⟩ ⟨_, _, rfl⟩ shX5_isMade, trivial⟩ h, fdX5_ok, (fun _ _ h => by cases h), rfl⟩
theorem rX5_madeAt (av : List AV) (f : FF) (a : AA) (post : PT) (h : sX5_madeAt av f a post) (X : XT) (hX : Clo eX5_madeAt post X) : X 0 (padL 5 (ent av)) [] f a := by
  unfold sX5_madeAt at h
  split at h
  · obtain ⟨P, i, va, vb, k0, hR, hW, rfl, hi, hA, rfl, hk0, h⟩ := h
    have n12 := hW.2.1
    have hk0' := hk0
    have hcU := cnt_U (mdB P i va vb) P.2.length 0
    rw [Nat.zero_add] at hcU
    rw [hcU, show cnt (mdB P i va vb) 0 = 0 from rfl, Nat.zero_add] at hk0'
    have hle := cnt_le (mdB P i va vb) P.2.length
    obtain ⟨R0, eR⟩ : ∃ R0, R0 = nthU (mdB P i va vb) P.2.length 0 k0 := ⟨_, rfl⟩
    rw [← eR] at h
    have key : ∀ d c k, c + d = P.2.length → k < cntU (mdB P i va vb) d c → k < 100 → R0 = nthU (mdB P i va vb) d c k → X 5 [some (.inr (.inr (5, 0, 0))), some (.inl (nI i)), some (.inl (nI k0)), some (.inl (nI k)), some (.inl (nI c))] [] f a := by
      intro d
      induction d with
      | zero => intro c k _ hk _ _; exact absurd hk (Nat.not_lt_zero k)
      | succ d ih =>
        intro c k hd hk h100 e
        have hc : c < P.2.length := by omega
        obtain ⟨r0, -⟩ := hR.2.2.2 c hc
        have kf_ : fr P c < 3 := ((okK_P hW).2 c hc).1
        have es : a 5 0 0 (4 + 8 * c + 0) = nI i ↔ fr P c = i := i_eq r0 rfl (by omega) (by omega)
        unfold nthU at e
        unfold cntU at hk
        have n47 : mdB P i va vb c = false → X 47 [some (.inr (.inr (5, 0, 0))), some (.inl (nI i)), some (.inl (nI k0)), some (.inl (nI k)), some (.inl (nI c))] [] f a := fun z => by
          rw [z] at e hk
          simp only [Bool.false_eq_true, if_false, Nat.zero_add] at e hk
          refine hX [5] 20 _ _ _ _ _ ?_
          have K := ih (c + 1) k (by omega) hk h100 e
          rw [← nI_1] at K
          exact K
        refine hX [47] 60 _ _ _ _ _ ?_
        refine ⟨inA 101 (n := 100) rfl rfl (by decide) (by decide), ⟨fun q => absurd ((i_le hR.2.1 rfl (by omega) (by omega)).mp q) (by omega), fun _ => ?_⟩⟩
        refine ⟨c, 0, rfl, rfl, by omega, ⟨fun q => n47 ?_, fun q => ⟨P, c, va, vb, hR, hW, rfl, hc, hA, ⟨fun q2 => n47 ?_, fun q2 => ?_⟩⟩⟩⟩
        · unfold mdB
          rw [decide_eq_false (fun z => q (es.mpr z)), Bool.false_and]
        · unfold mdB
          rw [b2i_e0.mp q2, Bool.and_false]
        · have z : mdB P i va vb c = true := by
            unfold mdB
            rw [decide_eq_true (es.mp q), b2i_n0.mp q2]
            rfl
          rw [if_pos z] at e hk
          have c0 : nI k = 0 ↔ k = 0 := nI_eq (b := 0) (by omega) (by decide)
          refine ⟨fun p => ?_, fun p => ?_⟩
          · have p : ¬ k = 0 := fun y => p (c0.mpr y)
            rw [if_neg p] at e
            refine hX [5] 20 _ _ _ _ _ ?_
            have K := ih (c + 1) (k - 1) (by omega) (by omega) (by omega) e
            rw [← nI_1, ← pk_sub (a := k) (b := 1) (by omega), Int32.sub_eq_add_neg] at K
            exact K
          · have p : k = 0 := c0.mp p
            rw [if_pos p] at e
            rw [e] at h
            exact h
    refine hX [5] 20 _ _ _ _ _ ?_
    exact key P.2.length 0 k0 (by omega) hk0' (by omega) eR
  · exact h.elim
theorem shX5_madeAt : ∀ As f a Q, sX5_madeAt As f a Q → ∃ i r, As = .inr (.inr (5, i, 0)) :: r := by
  intro As f a Q h
  unfold sX5_madeAt at h
  split at h
  · exact ⟨_, _, rfl⟩
  · exact h.elim
theorem mX5_madeAt {g : Gm} (hg : GmOK g) : MetC g yX5_madeAt cX5_madeAt 5 (some .int) 3 sX5_madeAt := by
  refine MetC_of hg eX5_madeAt (eokX5_madeAt hg) (by decide +kernel) (fun av f a post h => ?_) rX5_madeAt
  unfold sX5_madeAt at h
  split at h
  · exact Nat.le_of_ble_eq_true rfl
  · exact h.elim
