/-! the reference: lay, read -/
def sX5_lay : SP := fun As f a Q => match As with
  | [.inr (.inr (5, 0, 0)), .inl k, .inl i, .inl v] => ∃ A, RepM f a A ∧ OKA A ∧ ∀ f' a', RepM f' a' (nxLay A k i v) → S4 f a f' a' → Q (some (.inl (anLay A k i))) f' a'
  | _ => False
def eX5_lay : En := (tX5_lay, [(269, true, 2, sX5_isSheet), (71, true, 3, sX5_in)], fdX5, [], 0)
theorem eokX5_lay {g : Gm} (hg : GmOK g) : EnvOK g 2 RX5 cX5_lay (some .int) eX5_lay := ⟨okX5_lay, fun _ _ _ _ h => as2_all (P := fun i v => CallOK g 2 RX5 i v.1 v.2.1 v.2.2) (l := eX5_lay.2.1) ⟨callS_ok hg (mX5_isSheet hg) kX5_isSheet mlX5_269 qX5_isSheet ⟨by decide, by decide⟩, callS_ok hg (mX5_in hg) kX5_in mlX5_71 qX5_in ⟨by decide, by decide⟩, trivial⟩ h, fdX5_ok, (fun _ _ h => by cases h), rfl⟩
theorem rX5_lay (av : List AV) (f : FF) (a : AA) (post : PT) (h : sX5_lay av f a post) (X : XT) (hX : Clo eX5_lay post X) : X 0 (padL 4 (ent av)) [] f a := by
  unfold sX5_lay at h
  split at h
  · rename_i k i v
    obtain ⟨A, hA, hO, h⟩ := h
    unfold anLay nxLay at h
    have e0 : b2i (decide (0 ≤ k ∧ k < 4) && decide ((0 : Int32) ≤ 0 ∧ (0 : Int32) ≤ 2)) = b2i (decide (0 ≤ k ∧ k < 4)) := by
      rw [decide_eq_true (show (0 : Int32) ≤ 0 ∧ (0 : Int32) ≤ 2 by decide), Bool.and_true]
    refine hX [85] 90 _ _ _ _ _ ?_
    refine ⟨fun d => ?_, fun d => ?_⟩
    · have d := of_decide_eq_true (b2i_n0.mp (fun z => d (e0.trans z)))
      simp only [if_pos d] at h
      obtain ⟨j, rfl, hj⟩ := rng (M := 4) (by decide) d.1 d.2
      have cj : (nI j).toNatClampNeg = j := nI_clamp (by omega)
      rw [cj] at h
      have hs := hA.2.2.2.1 j hj
      have ij : ∀ r, al 5 r = 4 → vp_in (nI j) (al 5 r) := fun r hr => inA 4 rfl hr hj (by decide)
      refine ⟨ij 23 rfl, ?_⟩
      cases hsh : aS A j with
      | none =>
        rw [hsh] at h hs
        have hs : a 5 0 23 (nI j).toNatClampNeg = -4 := by rw [cj]; exact hs
        exact ⟨fun q => absurd hs q, fun q => h f a hA (S4.rf f a)⟩
      | some w =>
        obtain ⟨l, n, cs⟩ := w
        obtain ⟨hl3, hn40⟩ := hO.2.2.2.2.1 j hj l n cs hsh
        rw [hsh] at h hs
        have el : a 5 0 23 (nI j).toNatClampNeg = nI l := by rw [cj]; exact hs.1
        have en : a 5 0 24 (nI j).toNatClampNeg = nI n := by rw [cj]; exact hs.2.1
        refine ⟨fun _ => ?_, fun q => ?_⟩
        · have ein : b2i (decide ((0 : Int64) ≤ i.toInt64 ∧ i.toInt64 ≤ (a 5 0 24 (nI j).toNatClampNeg - 1).toInt64)) = b2i (decide (0 ≤ i ∧ i < nI n)) := by
            rw [en]
            simp only [in0, le_pred (show n < 1000 by omega)]
          refine ⟨ij 24 rfl, ⟨fun d2 => ?_, fun d2 => ?_⟩⟩
          · have d2 := of_decide_eq_true (b2i_n0.mp (fun z => d2 (ein.trans z)))
            simp only [if_pos d2] at h
            obtain ⟨m, rfl, hm⟩ := rng (show n < 2 ^ 31 by omega) d2.1 d2.2
            rw [nI_clamp (show m < 2 ^ 31 by omega)] at h
            have ei0 : 40 * nI j + nI m = nI (40 * j + m) := by rw [show (40 : Int32) = nI 40 from rfl, nI_mul, nI_add]
            have ei : (40 * nI j + nI m).toNatClampNeg = 40 * j + m := by rw [ei0, nI_clamp (by omega)]
            have h85 : ∀ x, x = narL l v → X 85 [some (.inr (.inr (5, 0, 0))), some (.inl (nI j)), some (.inl (nI m)), some (.inl v)] [.inl x, .inl (40 * nI j + nI m), .inr (.inr (5, 0, 26))] f a := fun x ex => by
              subst ex
              refine hX [] 20 _ _ _ _ _ ?_
              refine ⟨inA 160 ei0 rfl (by omega) (by decide), ?_⟩
              have hF : FA 25 a (upa a 5 0 25 (40 * nI j + nI m).toNatClampNeg (narL l v)) := (FA.rf 25 a).ua _ _
              have h25 : ∀ x, upa a 5 0 25 (40 * nI j + nI m).toNatClampNeg (narL l v) 5 0 25 x = if x = 40 * j + m then narL l v else a 5 0 25 x := fun x => by rw [upa_s, if_pos rfl, upd_s, ei]
              refine h f _ (hA.sh (fun k hk => hF.row (by
                have : ∀ k, k ∈ [0, 1, 2, 4] → k ≠ 25 := by decide
                exact this k hk)) ⟨?_, ?_, fun y hy => ?_⟩ (fun x hx hxj => ?_)) (hF.s4 f)
              · rw [hF.row (by decide)]
                exact hs.1
              · rw [hF.row (by decide)]
                exact hs.2.1
              · rw [h25, upd_s]
                by_cases z : y = m
                · rw [if_pos z, if_pos (by omega)]
                · rw [if_neg z, if_neg (by omega)]
                  exact hs.2.2 y hy
              · have := hA.2.2.2.1 x hx
                unfold shM at this ⊢
                rw [hF.row (show 23 ≠ 25 by decide), hF.row (show 24 ≠ 25 by decide)]
                cases hsh2 : aS A x with
                | none =>
                  rw [hsh2] at this
                  exact this
                | some w =>
                  obtain ⟨l0, n0, cs0⟩ := w
                  rw [hsh2] at this
                  exact ⟨this.1, this.2.1, fun y hy => by rw [h25, if_neg (by omega)]; exact this.2.2 y hy⟩
            have c0 : a 5 0 23 (nI j).toNatClampNeg = 0 ↔ l = 0 := i_eq (b := 0) el rfl (by omega) (by decide)
            have c1 : a 5 0 23 (nI j).toNatClampNeg = 1 ↔ l = 1 := i_eq (b := 1) el rfl (by omega) (by decide)
            unfold narL at h85
            refine ⟨ij 23 rfl, ⟨fun q => ⟨ij 23 rfl, ⟨fun q2 => ?_, fun q2 => ?_⟩⟩, fun q => ?_⟩⟩
            · exact h85 _ (by rw [if_neg (fun z => q (c0.mpr z)), if_neg (fun z => q2 (c1.mpr z))])
            · exact h85 _ (by rw [if_neg (fun z => q (c0.mpr z)), if_pos (c1.mp q2)])
            · exact h85 _ (by rw [if_pos (c0.mp (by first | exact q | exact Decidable.not_not.mp q))])
          · have d2 := of_decide_eq_false (b2i_e0.mp (ein.symm.trans d2))
            simp only [if_neg d2] at h
            exact h f a hA (S4.rf f a)
        · rw [el] at q
          exact absurd (by rw [q]; decide) (nI_pos (show l < 2 ^ 31 by omega))
    · have d := of_decide_eq_false (b2i_e0.mp (e0.symm.trans d))
      simp only [if_neg d] at h
      exact h f a hA (S4.rf f a)
  · exact h.elim
theorem shX5_lay : ∀ As f a Q, sX5_lay As f a Q → ∃ i r, As = .inr (.inr (5, i, 0)) :: r := by
  intro As f a Q h
  unfold sX5_lay at h
  split at h
  · exact ⟨_, _, rfl⟩
  · exact h.elim
theorem mX5_lay {g : Gm} (hg : GmOK g) : MetC g yX5_lay cX5_lay 4 (some .int) 2 sX5_lay := by
  refine MetC_of hg eX5_lay (eokX5_lay hg) (by decide +kernel) (fun av f a post h => ?_) rX5_lay
  unfold sX5_lay at h
  split at h
  · exact Nat.le_of_ble_eq_true rfl
  · exact h.elim
