/-! arguments as they are told -/
def sX5_toldOf : SP := fun As f a Q => match As with
  | [.inr (.inr (5, 0, 0)), .inl c, .inl k] => ∃ P n j, RM (a 5 0 0) P ∧ WF P ∧ c = nI n ∧ k = nI j ∧ n < P.2.length ∧ j < 2 ∧ Q (some (.inl (nI (ag P n j)))) f a
  | _ => False
def eX5_toldOf : En := (tX5_toldOf, [(142, false, 4, sX5_ofArgument)], fdX5, [], 0)
theorem eokX5_toldOf {g : Gm} (hg : GmOK g) : EnvOK g 2 RX5 cX5_toldOf (some .int) eX5_toldOf := ⟨okX5_toldOf, fun _ _ _ _ h => as2_all (P := fun i v => CallOK g 2 RX5 i v.1 v.2.1 v.2.2) (l := eX5_toldOf.2.1) ⟨callV_ok (t := 5) hg (mX5_ofArgument hg) kX5_ofArgument mlX5_142 qX5_ofArgument.1 qX5_ofArgument.2 ⟨by decide, by decide⟩ ⟨_, _, rfl⟩ shX5_ofArgument, trivial⟩ h, fdX5_ok, (fun _ _ h => by cases h), rfl⟩
theorem rX5_toldOf (av : List AV) (f : FF) (a : AA) (post : PT) (h : sX5_toldOf av f a post) (X : XT) (hX : Clo eX5_toldOf post X) : X 0 (padL 3 (ent av)) [] f a := by
  unfold sX5_toldOf at h
  split at h
  · obtain ⟨P, n, j, hR, hW, rfl, rfl, hn, hj, h⟩ := h
    have n12 := hR.ix hW hn
    have hx := hW.ag_lt (k := j) hn
    obtain ⟨r0, r1, r2⟩ := (hR.2.2.2 n hn).2.2 j hj
    refine hX [] 40 _ _ _ _ _ ?_
    refine ⟨n, j, 0, rfl, rfl, rfl, by omega, n, j, 1, rfl, rfl, rfl, by omega, n, j, 2, rfl, rfl, rfl, by omega, pI h ?_⟩
    dsimp only
    rw [r1, r2, show a 5 0 0 (4 + 8 * n + (2 + 3 * j + 0)) = nI (ag P n j / 100) from r0, arg3]
    exact congrArg nI (by omega)
  · exact h.elim
theorem shX5_toldOf : ∀ As f a Q, sX5_toldOf As f a Q → ∃ i r, As = .inr (.inr (5, i, 0)) :: r := by
  intro As f a Q h
  unfold sX5_toldOf at h
  split at h
  · exact ⟨_, _, rfl⟩
  · exact h.elim
theorem mX5_toldOf {g : Gm} (hg : GmOK g) : MetC g yX5_toldOf cX5_toldOf 3 (some .int) 2 sX5_toldOf := by
  refine MetC_of hg eX5_toldOf (eokX5_toldOf hg) (by decide +kernel) (fun av f a post h => ?_) rX5_toldOf
  unfold sX5_toldOf at h
  split at h
  · exact Nat.le_of_ble_eq_true rfl
  · exact h.elim
def sX5_isArgument : SP := fun As f a Q => match As with
  | [.inr (.inr (5, 0, 0)), .inl c, .inl k] => ∃ P, RM (a 5 0 0) P ∧ WF P ∧ Q (some (.inl (b2i (hasA P c k)))) f a
  | _ => False
def eX5_isArgument : En := (tX5_isArgument, [(223, false, 2, sX5_isCall), (139, false, 3, sX5_of), (71, true, 3, sX5_in)], fdX5, [], 1)
theorem eokX5_isArgument {g : Gm} (hg : GmOK g) : EnvOK g 2 RX5 cX5_isArgument (some .boolean) eX5_isArgument := ⟨okX5_isArgument, fun _ _ _ _ h => as2_all (P := fun i v => CallOK g 2 RX5 i v.1 v.2.1 v.2.2) (l := eX5_isArgument.2.1) ⟨callV_ok (t := 5) hg (mX5_isCall hg) kX5_isCall mlX5_223 qX5_isCall.1 qX5_isCall.2 ⟨by decide, by decide⟩ ⟨_, _, rfl⟩ shX5_isCall, callV_ok (t := 5) hg (mX5_of hg) kX5_of mlX5_139 qX5_of.1 qX5_of.2 ⟨by decide, by decide⟩ ⟨_, _, rfl⟩ shX5_of, callS_ok hg (mX5_in hg) kX5_in mlX5_71 qX5_in ⟨by decide, by decide⟩, trivial⟩ h, fdX5_ok, (fun _ _ h => by cases h), rfl⟩
theorem rX5_isArgument (av : List AV) (f : FF) (a : AA) (post : PT) (h : sX5_isArgument av f a post) (X : XT) (hX : Clo eX5_isArgument post X) : X 0 (padL 3 (ent av)) [] f a := by
  unfold sX5_isArgument at h
  split at h
  · rename_i c k
    obtain ⟨P, hR, hW, h⟩ := h
    have n12 := hW.2.1
    have n3 := hW.1
    unfold hasA at h
    refine hX [] 60 _ _ _ _ _ ?_
    refine ⟨P, hR, hW, ⟨fun q => pF h (by rw [b2i_e0.mp q, Bool.false_and]), fun q => ?_⟩⟩
    have q := b2i_n0.mp q
    rw [q, Bool.true_and] at h
    have q := of_decide_eq_true q
    obtain ⟨n, rfl, hn⟩ := rng (M := P.2.length) (by omega) q.1 q.2
    rw [nI_clamp (by omega)] at h
    obtain ⟨r0, r1, -⟩ := hR.2.2.2 n hn
    have ht := hW.to_lt hn
    have et := hR.arm hW r1 ht
    have a2 := hW.ar_to hn
    refine ⟨n, 1, rfl, rfl, by omega, inA 101 r1 rfl (by omega) (by decide), ?_⟩
    have e : b2i (decide ((0 : Int64) ≤ k.toInt64 ∧ k.toInt64 ≤ (a 5 0 0 (a 5 0 0 (4 + 8 * n + 1)).toNatClampNeg - 1).toInt64)) = b2i (decide (0 ≤ k ∧ k < nI (ar P (to P n)))) := by
      rw [et]
      simp only [in0, le_pred (show ar P (to P n) < 1000 by omega)]
    refine ⟨fun q => pF h (b2i_e0.mp (e.symm.trans q)), fun q => pT h ?_⟩
    exact b2i_n0.mp (fun z => q (e.trans z))
  · exact h.elim
theorem shX5_isArgument : ∀ As f a Q, sX5_isArgument As f a Q → ∃ i r, As = .inr (.inr (5, i, 0)) :: r := by
  intro As f a Q h
  unfold sX5_isArgument at h
  split at h
  · exact ⟨_, _, rfl⟩
  · exact h.elim
theorem mX5_isArgument {g : Gm} (hg : GmOK g) : MetC g yX5_isArgument cX5_isArgument 3 (some .boolean) 2 sX5_isArgument := by
  refine MetC_of hg eX5_isArgument (eokX5_isArgument hg) (by decide +kernel) (fun av f a post h => ?_) rX5_isArgument
  unfold sX5_isArgument at h
  split at h
  · exact Nat.le_of_ble_eq_true rfl
  · exact h.elim
