theorem p64 {x : Int32} {i c : Nat} (hi : i < 100) (hc : c < 100) : (x.toInt64 + (3 * nI i).toInt64 + (nI c).toInt64).toInt = x.toInt + 3 * (i : Int) + (c : Int) := by
  have h1 := Int32.toInt_lt x
  have h2 := Int32.le_toInt x
  have e1 : (x.toInt64 + (3 * nI i).toInt64).toInt = x.toInt + 3 * (i : Int) := by
    rw [Int64.toInt_add, Int32.toInt_toInt64, Int32.toInt_toInt64, show (3 : Int32) = nI 3 from rfl, nI_mul, nI_toInt (by omega)]
    rw [Int.bmod_eq_of_le (by omega) (by omega)]
    omega
  rw [Int64.toInt_add, e1, Int32.toInt_toInt64, nI_toInt (by omega)]
  exact Int.bmod_eq_of_le (by omega) (by omega)
theorem RepM.tn {f : FF} {a : AA} {A : Ab} (h : RepM f a A) (t : Nat) : RepM (upf f 5 0 26 (nI t)) a (aP A, aT A, aFt A, aI A, aS A, t) := by
  obtain ⟨r1, ⟨r2, r3, r4⟩, r5, r6, r7, r8⟩ := h
  exact ⟨r1, ⟨by rw [upf_s, if_neg (by decide)]; exact r2, r3, by rw [upf_s, if_neg (by decide)]; exact r4⟩, r5, r6, by rw [upf_s, if_pos rfl], by rw [upf_s, if_neg (by decide)]; exact r8⟩
def sX5_read : SP := fun As f a Q => match As with
  | [.inr (.inr (5, 0, 0)), .inl k, .inl l, .inl x, .inl n] => ∃ A, RepM f a A ∧ OKA A ∧ ∀ f' a', RepM f' a' (nxRead A k l x n) → S4 f a f' a' → Q (some (.inl (anRead A k l x n))) f' a'
  | _ => False
def eX5_read : En := (tX5_read, [(269, true, 2, sX5_isSheet), (71, true, 3, sX5_in), (274, false, 4, sX5_set)], fdX5, [(272, .inr (.inl 13))], 0)
theorem eokX5_read {g : Gm} (hg : GmOK g) : EnvOK g 4 RX5 cX5_read (some .int) eX5_read := ⟨okX5_read, fun _ _ _ _ h => as2_all (P := fun i v => CallOK g 4 RX5 i v.1 v.2.1 v.2.2) (l := eX5_read.2.1) ⟨callS_ok hg (mX5_isSheet hg) kX5_isSheet mlX5_269 qX5_isSheet ⟨by decide, by decide⟩, callS_ok hg (mX5_in hg) kX5_in mlX5_71 qX5_in ⟨by decide, by decide⟩, callV_ok (t := 5) hg (mX5_set hg) kX5_set mlX5_274 qX5_set.1 qX5_set.2 ⟨by decide, by decide⟩ ⟨_, _, rfl⟩ shX5_set, trivial⟩ h, fdX5_ok, fun _ _ h => as2_all (P := fun i v => CstOK g RX5 i v ∧ vld v) (l := eX5_read.2.2.2.1) ⟨cstX5_272, trivial⟩ h, rfl⟩
theorem rX5_read (av : List AV) (f : FF) (a : AA) (post : PT) (h : sX5_read av f a post) (X : XT) (hX : Clo eX5_read post X) : X 0 (padL 11 (ent av)) [] f a := by
  unfold sX5_read at h
  split at h
  · rename_i k l x n
    obtain ⟨A, hA, hO, h⟩ := h
    unfold anRead nxRead at h
    have ein : b2i (decide ((0 : Int64) ≤ n.toInt64 ∧ n.toInt64 ≤ (13 : Int64))) = b2i (decide (0 ≤ n ∧ n ≤ 13)) := in_c (by decide)
    have bad : okR k l n = false → post (some (.inl (-1))) f a := fun z => by
      simp only [z, Bool.false_eq_true, if_false] at h
      exact h f a hA (S4.rf f a)
    refine hX [26] 90 _ _ _ _ _ ?_
    refine ⟨fun d => ?_, fun d => ⟨fun d2 => ?_, fun d2 => ?_⟩⟩
    · have d := b2i_e0.mp d
      refine bad ?_
      unfold okR
      rw [← Bool.and_assoc, d, Bool.false_and]
    · have d := b2i_n0.mp d
      have d2 := b2i_n0.mp (fun z => d2 (ein.trans z))
      have hk : okR k l n = true := by
        unfold okR
        rw [← Bool.and_assoc, d, d2]
        rfl
      simp only [hk, if_true] at h
      rw [Bool.and_eq_true, decide_eq_true_eq, decide_eq_true_eq] at d
      obtain ⟨dk, dl⟩ := d
      have d2 := of_decide_eq_true d2
      obtain ⟨j, rfl, hj⟩ := rng (M := 4) (by decide) dk.1 dk.2
      obtain ⟨N, hN, rfl⟩ := ge0 (Int32.not_lt.mpr d2.1)
      have hN13 : N ≤ 13 := (nI_leI (b := 13) hN (by decide)).mp d2.2
      have cj : (nI j).toNatClampNeg = j := nI_clamp (by omega)
      rw [cj, nI_clamp hN] at h
      obtain ⟨s, es⟩ : ∃ s, s = aS A j := ⟨_, rfl⟩
      obtain ⟨R0, eR⟩ : ∃ R0, R0 = rdN s l x N 0 (aP A) := ⟨_, rfl⟩
      rw [← es, ← eR] at h
      have hl40 : ∀ l' n' cs, s = some (l', n', cs) → l' < 3 ∧ n' ≤ 40 := fun l' n' cs q => hO.2.2.2.2.1 j hj l' n' cs (es.symm.trans q)
      have ij : ∀ r, al 5 r = 4 → vp_in (nI j) (al 5 r) := fun r hr => inA 4 rfl hr hj (by decide)
      -- the end
      have fin : ∀ (ft w : Nat) (P1 : Pg) (a1 : AA) (z7 z8 z9 z10 : Option AV), RepM f a1 (P1, A.2) → S4 f a f a1 → R0 = .inl (w, ft, P1) → X 259 [some (.inr (.inr (5, 0, 0))), some (.inl (nI j)), some (.inl l), some (.inl x), some (.inl (nI N)), some (.inl (nI ft)), some (.inl (nI w)), z7, z8, z9, z10] [] f a1 := by
        intro ft w P1 a1 z7 z8 z9 z10 hA1 hS e
        rw [e] at h
        refine hX [] 20 _ _ _ _ _ ?_
        exact h _ _ (hA1.tn ft) (hS.uf _ _)
      -- the three cells
      have inner : ∀ (i : Nat) (wh : Int32) (a1 : AA), i < 13 → (x + 3 * nI i).toInt = x.toInt + 3 * (i : Int) → shM (a1 5 0) j s → (∀ z8 z9 z10, X 164 [some (.inr (.inr (5, 0, 0))), some (.inl (nI j)), some (.inl l), some (.inl x), some (.inl (nI N)), some (.inl (nI (ftI s l (x + 3 * nI i) 3))), some (.inl wh), some (.inl (nI i)), z8, z9, z10] [] f a1) →
          ∀ z9 z10, X 77 [some (.inr (.inr (5, 0, 0))), some (.inl (nI j)), some (.inl l), some (.inl x), some (.inl (nI N)), some (.inl 0), some (.inl wh), some (.inl (nI i)), some (.inl (nI 0)), z9, z10] [] f a1 := by
        intro i wh a1 hi hv hs K
        have exit : ∀ (r : Nat) (c : Int32) z9 z10, ftI s l (x + 3 * nI i) 3 = r → ¬ nI r = 0 → X 77 [some (.inr (.inr (5, 0, 0))), some (.inl (nI j)), some (.inl l), some (.inl x), some (.inl (nI N)), some (.inl (nI r)), some (.inl wh), some (.inl (nI i)), some (.inl c), z9, z10] [] f a1 := by
          intro r c z9 z10 er hr
          rw [er] at K
          refine hX [164] 20 _ _ _ _ _ ?_
          exact ⟨fun _ => K _ _ _, fun _ => ⟨fun _ => K _ _ _, fun q => absurd q hr⟩⟩
        cases s with
        | none =>
          intro z9 z10
          have hs : a1 5 0 23 (nI j).toNatClampNeg = -4 := by rw [cj]; exact hs
          refine hX [77] 60 _ _ _ _ _ ?_
          refine ⟨fun q => absurd q (by decide), fun _ => ⟨fun q => absurd rfl q, fun _ => ⟨ij 23 rfl, ⟨fun q => absurd hs q, fun _ => ?_⟩⟩⟩⟩
          exact exit 1 _ _ _ rfl (by decide)
        | some w =>
          obtain ⟨l', n', cs⟩ := w
          obtain ⟨hl3, hn40⟩ := hl40 l' n' cs rfl
          have el : a1 5 0 23 (nI j).toNatClampNeg = nI l' := by rw [cj]; exact hs.1
          have en : a1 5 0 24 (nI j).toNatClampNeg = nI n' := by rw [cj]; exact hs.2.1
          have nn : ¬ a1 5 0 23 (nI j).toNatClampNeg = -4 := fun q => by
            rw [el] at q
            exact absurd (by rw [q]; decide) (nI_pos (show l' < 2 ^ 31 by omega))
          have eft : ftI (some (l', n', cs)) l (x + 3 * nI i) 3 = if nI l' = l then (if x + 3 * nI i < 0 ∨ nI n' - 3 < x + 3 * nI i then 2 else 0) else 3 := rfl
          by_cases hll : nI l' = l
          · have b0 : x + 3 * nI i < 0 ↔ x.toInt + 3 * (i : Int) < 0 := by
              rw [Int32.lt_iff_toInt_lt, hv, show (0 : Int32).toInt = 0 from by decide]
            have b1 : nI n' - 3 < x + 3 * nI i ↔ (n' : Int) - 3 < x.toInt + 3 * (i : Int) := by
              rw [Int32.lt_iff_toInt_lt, hv, show (3 : Int32) = nI 3 from rfl, pk_sub_toInt (by omega) (by omega)]
              omega
            rw [if_pos hll] at eft
            have loop : ∀ c : Nat, c ≤ 3 → (c = 0 ∨ (0 ≤ x.toInt + 3 * (i : Int) ∧ x.toInt + 3 * (i : Int) + (c : Int) ≤ (n' : Int))) → ∀ z9 z10, X 77 [some (.inr (.inr (5, 0, 0))), some (.inl (nI j)), some (.inl l), some (.inl x), some (.inl (nI N)), some (.inl 0), some (.inl wh), some (.inl (nI i)), some (.inl (nI c)), z9, z10] [] f a1 := by
              refine forUp (Pr := fun (c : Nat) => (c = 0 ∨ (0 ≤ x.toInt + 3 * (i : Int) ∧ x.toInt + 3 * (i : Int) + (c : Int) ≤ (n' : Int))) → ∀ z9 z10, X 77 [some (.inr (.inr (5, 0, 0))), some (.inl (nI j)), some (.inl l), some (.inl x), some (.inl (nI N)), some (.inl 0), some (.inl wh), some (.inl (nI i)), some (.inl (nI c)), z9, z10] [] f a1) ?_ ?_
              · intro c hc ih hcc z9 z10
                have ep := p64 (x := x) (i := i) (c := c) (by omega) (by omega)
                have l0 : lg_cmp (x.toInt64 + (3 * nI i).toInt64 + (nI c).toInt64) 0 < 0 ↔ x.toInt + 3 * (i : Int) + (c : Int) < 0 := by
                  rw [lg_cmp_lt, Int64.lt_iff_toInt_lt, ep, show (0 : Int64).toInt = 0 from by decide]
                have l1 : lg_cmp (x.toInt64 + (3 * nI i).toInt64 + (nI c).toInt64) (a1 5 0 24 (nI j).toNatClampNeg).toInt64 < 0 ↔ x.toInt + 3 * (i : Int) + (c : Int) < (n' : Int) := by
                  rw [lg_cmp_lt, Int64.lt_iff_toInt_lt, ep, en, Int32.toInt_toInt64, nI_toInt (by omega)]
                have n2 : (x.toInt + 3 * (i : Int) + (c : Int) < 0 ∨ ¬ x.toInt + 3 * (i : Int) + (c : Int) < (n' : Int)) → ftI (some (l', n', cs)) l (x + 3 * nI i) 3 = 2 := fun z => by
                  rw [eft, if_pos]
                  rcases z with z | z
                  · exact Or.inl (b0.mpr (by omega))
                  · by_cases y : x.toInt + 3 * (i : Int) < 0
                    · exact Or.inl (b0.mpr y)
                    · exact Or.inr (b1.mpr (by omega))
                refine hX [77] 90 _ _ _ _ _ ?_
                refine ⟨fun q => absurd ((i_le (show (3 : Int32) = nI 3 from rfl) rfl (by decide) (by omega)).mp q) (by omega), fun _ => ⟨fun q => absurd rfl q, fun _ => ⟨ij 23 rfl, ⟨fun _ => ⟨ij 23 rfl, ⟨fun _ => ⟨fun q => ?_, fun q => ⟨ij 24 rfl, ⟨fun q2 => ?_, fun q2 => ?_⟩⟩⟩, fun q => absurd (el.trans hll) q⟩⟩, fun q => absurd q nn⟩⟩⟩⟩
                · exact exit 2 _ _ _ (n2 (Or.inl (l0.mp q))) (by decide)
                · have q : ¬ x.toInt + 3 * (i : Int) + (c : Int) < 0 := fun z => q (l0.mpr z)
                  have q2 := l1.mp q2
                  have K2 := ih (Or.inr ⟨by omega, by omega⟩) (some (.inr (.inl (x.toInt64 + (3 * nI i).toInt64 + (nI c).toInt64)))) none
                  rw [← nI_1] at K2
                  exact K2
                · exact exit 2 _ _ _ (n2 (Or.inr (fun z => q2 (l1.mpr z)))) (by decide)
              · intro hcc z9 z10
                have e0 : ftI (some (l', n', cs)) l (x + 3 * nI i) 3 = 0 := by
                  rw [eft, if_neg]
                  rintro (z | z)
                  · have := b0.mp z
                    omega
                  · have := b1.mp z
                    omega
                rw [e0] at K
                refine hX [164] 20 _ _ _ _ _ ?_
                exact ⟨fun _ => K _ _ _, fun q => absurd (by decide) q⟩
            exact loop 0 (by decide) (Or.inl rfl)
          · intro z9 z10
            rw [if_neg hll] at eft
            refine hX [77] 60 _ _ _ _ _ ?_
            refine ⟨fun q => absurd q (by decide), fun _ => ⟨fun q => absurd rfl q, fun _ => ⟨ij 23 rfl, ⟨fun _ => ⟨ij 23 rfl, ⟨fun q => absurd (el.symm.trans q) hll, fun _ => ?_⟩⟩, fun q => absurd q nn⟩⟩⟩⟩
            exact exit 3 _ _ _ eft (by decide)
      -- all of them
      have key : ∀ (d i : Nat) (P1 : Pg) (a1 : AA), i + d = N → (i = 0 ∨ ∃ m, x = nI m ∧ m + 3 * i ≤ 40) → WF P1 → RepM f a1 (P1, A.2) → (∀ m, m < 101 → a1 5 0 27 m = a 5 0 0 m) → S4 f a f a1 → R0 = rdN s l x d i P1 → ∀ z8 z9 z10, X 62 [some (.inr (.inr (5, 0, 0))), some (.inl (nI j)), some (.inl l), some (.inl x), some (.inl (nI N)), some (.inl 0), some (.inl (nI i)), some (.inl (nI i)), z8, z9, z10] [] f a1 := by
        intro d
        induction d with
        | zero =>
          intro i P1 a1 hid hv hW1 hA1 hb hS e z8 z9 z10
          refine hX [259] 20 _ _ _ _ _ ?_
          exact ⟨fun _ => fin 0 i P1 a1 _ _ _ _ hA1 hS e, fun q => absurd ((i_le rfl rfl (by omega) (by omega)).mpr (by omega)) q⟩
        | succ d ih =>
          intro i P1 a1 hid hv hW1 hA1 hb hS e z8 z9 z10
          have hv2 : (x + 3 * nI i).toInt = x.toInt + 3 * (i : Int) := by
            rcases hv with rfl | ⟨m, rfl, hm⟩
            · rw [show 3 * nI 0 = 0 from by decide, Int32.add_zero]
              omega
            · rw [show (3 : Int32) = nI 3 from rfl, nI_mul, nI_add, nI_toInt (by omega), nI_toInt (by omega)]
              omega
          have hs : shM (a1 5 0) j s := by rw [es]; exact hA1.2.2.2.1 j hj
          unfold rdN at e
          refine hX [77] 40 _ _ _ _ _ ?_
          refine ⟨fun q => absurd ((i_le rfl rfl (by omega) (by omega)).mp q) (by omega), fun _ => ⟨fun q => absurd rfl q, fun _ => ?_⟩⟩
          refine inner i (nI i) a1 (by omega) hv2 hs (fun z8 z9 z10 => ?_) _ _
          by_cases hft : ftI s l (x + 3 * nI i) 3 = 0
          · rw [if_pos hft] at e
            rw [hft]
            obtain ⟨l', n', cs, m, rfl, em, hm3, hn40⟩ := ft3 hft (fun l' n' cs q => (hl40 l' n' cs q).2)
            dsimp only at e
            have e3 : x = nI (m - 3 * i) ∧ 3 * i ≤ m := by
              rcases hv with rfl | ⟨m0, rfl, hm0⟩
              · rw [show 3 * nI 0 = 0 from by decide, Int32.add_zero] at em
                exact ⟨em, by omega⟩
              · rw [show (3 : Int32) = nI 3 from rfl, nI_mul, nI_add] at em
                have := (nI_eq (show m0 + 3 * i < 2 ^ 31 by omega) (show m < 2 ^ 31 by omega)).mp em
                exact ⟨by congr 1; omega, by omega⟩
            have ex0 : 40 * nI j + x + 3 * nI i = nI (40 * j + m) := by
              rw [e3.1, show (40 : Int32) = nI 40 from rfl, show (3 : Int32) = nI 3 from rfl, nI_mul, nI_mul, nI_add, nI_add]
              congr 1
              omega
            have ex1 : 40 * nI j + x + 3 * nI i + 1 = nI (40 * j + (m + 1)) := by
              rw [ex0, nI_1]
              rfl
            have ex2 : 40 * nI j + x + 3 * nI i + 2 = nI (40 * j + (m + 2)) := by
              rw [ex0, show (2 : Int32) = nI 2 from rfl, nI_add]
              rfl
            have q0 : a1 5 0 25 (40 * nI j + x + 3 * nI i).toNatClampNeg = cs m := by rw [ex0, nI_clamp (by omega)]; exact hs.2.2 m (by omega)
            have q1 : a1 5 0 25 (40 * nI j + x + 3 * nI i + 1).toNatClampNeg = cs (m + 1) := by rw [ex1, nI_clamp (by omega)]; exact hs.2.2 (m + 1) (by omega)
            have q2 : a1 5 0 25 (40 * nI j + x + 3 * nI i + 2).toNatClampNeg = cs (m + 2) := by rw [ex2, nI_clamp (by omega)]; exact hs.2.2 (m + 2) (by omega)
            have t0 : (x + 3 * nI i).toNatClampNeg = m := by rw [em, nI_clamp (by omega)]
            have t1 : (x + 3 * nI i + 1).toNatClampNeg = m + 1 := by rw [em, nI_1, nI_clamp (by omega)]
            have t2 : (x + 3 * nI i + 2).toNatClampNeg = m + 2 := by rw [em, show (2 : Int32) = nI 2 from rfl, nI_add, nI_clamp (by omega)]
            rw [t0, t1, t2] at e
            refine hX [62, 217] 60 _ _ _ _ _ ?_
            refine ⟨fun q => absurd rfl q, fun _ => ⟨inA 160 ex0 rfl (by omega) (by decide), inA 160 ex1 rfl (by omega) (by decide), inA 160 ex2 rfl (by omega) (by decide), ?_⟩⟩
            refine ⟨(P1, A.2), hA1, ⟨hW1, hO.2⟩, fun f2 a2 hA2 hS2 ef hF2 => ?_⟩
            subst ef
            have eA : anSet (P1, A.2) (a1 5 0 25 (40 * nI j + x + 3 * nI i).toNatClampNeg) (a1 5 0 25 (40 * nI j + x + 3 * nI i + 1).toNatClampNeg) (a1 5 0 25 (40 * nI j + x + 3 * nI i + 2).toNatClampNeg) = anSet (P1, A.2) (cs m) (cs (m + 1)) (cs (m + 2)) := by rw [q0, q1, q2]
            have hA2 : RepM f2 a2 (nxSet (P1, A.2) (a1 5 0 25 (40 * nI j + x + 3 * nI i).toNatClampNeg) (a1 5 0 25 (40 * nI j + x + 3 * nI i + 1).toNatClampNeg) (a1 5 0 25 (40 * nI j + x + 3 * nI i + 2).toNatClampNeg)) := hA2
            rw [q0, q1, q2] at hA2
            have hb2 : ∀ m, m < 101 → a2 5 0 27 m = a 5 0 0 m := fun m hm => by rw [hF2.row (by decide)]; exact hb m hm
            unfold anSet at eA
            unfold nxSet at hA2
            by_cases ht : takesB P1 (cs m) (cs (m + 1)) (cs (m + 2)) = true
            · rw [if_pos ht] at e
              rw [if_pos ht] at eA hA2
              obtain ⟨c', k', y', e1, hc', e2, hk', e4, hy', hok'⟩ := takes_spec hW1 ht
              have h12 := hW1.l12
              have hat := hW1.ar_to hc'
              refine ⟨fun q => ?_, fun q => ?_⟩
              · have hW2 : WF (setA P1 (cs m).toNatClampNeg (cs (m + 1)).toNatClampNeg (cs (m + 2)).toNatClampNeg) := by
                  rw [e1, e2, e4, nI_clamp (show c' < 2 ^ 31 by omega), nI_clamp (show k' < 2 ^ 31 by omega), nI_clamp (show y' < 2 ^ 31 by omega)]
                  exact hW1.stA hc' hk' hok'
                have K := ih (i + 1) _ a2 (by omega) (Or.inr ⟨m - 3 * i, e3.1, by omega⟩) hW2 hA2 hb2 (hS.tr hS2) e
                have K := K (some (.inl (40 * nI j + x + 3 * nI i))) z9 z10
                rw [← nI_1] at K
                exact K
              · have q : ¬ 0 ≤ anSet (P1, A.2) (a1 5 0 25 (40 * nI j + x + 3 * nI i).toNatClampNeg) (a1 5 0 25 (40 * nI j + x + 3 * nI i + 1).toNatClampNeg) (a1 5 0 25 (40 * nI j + x + 3 * nI i + 2).toNatClampNeg) := q
                unfold anSet at q
                rw [eA, e1, e2, nI_clamp (show c' < 2 ^ 31 by omega), nI_clamp (show k' < 2 ^ 31 by omega)] at q
                exact absurd (nI_pos' (show ag P1 c' k' < 2 ^ 31 by have := hW1.ag_lt (k := k') hc'; omega)) q
            · rw [if_neg ht] at e
              rw [if_neg ht] at eA hA2
              refine ⟨fun q => ?_, fun q => ?_⟩
              · have q : 0 ≤ anSet (P1, A.2) (a1 5 0 25 (40 * nI j + x + 3 * nI i).toNatClampNeg) (a1 5 0 25 (40 * nI j + x + 3 * nI i + 1).toNatClampNeg) (a1 5 0 25 (40 * nI j + x + 3 * nI i + 2).toNatClampNeg) := q
                unfold anSet at q
                rw [eA] at q
                exact absurd q (by decide)
              · rw [e] at h
                have rest : ∀ c, c ≤ 101 → ∀ a3 z8 z10, FA 0 a2 a3 → (∀ m, m < c → a3 5 0 0 m = a 5 0 0 m) → X 217 [some (.inr (.inr (5, 0, 0))), some (.inl (nI j)), some (.inl l), some (.inl x), some (.inl (nI N)), some (.inl 0), some (.inl (nI i)), some (.inl (nI i)), some (.inl z8), some (.inl (nI c)), z10] [] f2 a3 := by
                  refine forUp (Pr := fun c => ∀ a3 z8 z10, FA 0 a2 a3 → (∀ m, m < c → a3 5 0 0 m = a 5 0 0 m) → X 217 [some (.inr (.inr (5, 0, 0))), some (.inl (nI j)), some (.inl l), some (.inl x), some (.inl (nI N)), some (.inl 0), some (.inl (nI i)), some (.inl (nI i)), some (.inl z8), some (.inl (nI c)), z10] [] f2 a3) ?_ ?_
                  · intro c hc ihc a3 z8 z10 hF3 hz
                    have ec : (nI c).toNatClampNeg = c := nI_clamp (by omega)
                    refine hX [217] 40 _ _ _ _ _ ?_
                    refine ⟨fun q => absurd ((i_le (show (101 : Int32) = nI 101 from rfl) rfl (by decide) (by omega)).mp q) (by omega), fun _ => ⟨inA 101 rfl rfl hc (by decide), inA 101 rfl rfl hc (by decide), ?_⟩⟩
                    have K := ihc (upa a3 5 0 0 (nI c).toNatClampNeg (a3 5 0 27 (nI c).toNatClampNeg)) z8 z10 (hF3.ua _ _) (fun m hm => by
                      rw [upa_s, if_pos rfl, upd_s, ec]
                      by_cases z : m = c
                      · rw [if_pos z, hF3.row (by decide), hb2 c hc, z]
                      · rw [if_neg z]
                        exact hz m (by omega))
                    rw [← nI_1] at K
                    exact K
                  · intro a3 z8 z10 hF3 hz
                    refine hX [] 40 _ _ _ _ _ ?_
                    refine ⟨fun _ => ?_, fun q => absurd (by decide) q⟩
                    have hR3 : RM (a3 5 0 0) (aP A) := hA.1.cg hO.1 (fun m hm => hz m hm)
                    exact h f2 a3 (hA2.fa0 hF3 hR3) ((hS.tr hS2).tr (hF3.s4 f2))
                exact rest 0 (Nat.zero_le _) a2 _ _ (FA.rf 0 a2) (fun m hm => absurd hm (Nat.not_lt_zero m))
          · rw [if_neg hft] at e
            have h4 := ftI_lt s l (x + 3 * nI i) 3
            have nz : ¬ nI (ftI s l (x + 3 * nI i) 3) = 0 := nI_ne0 (by omega) (by omega)
            have F : ∀ z7, X 259 [some (.inr (.inr (5, 0, 0))), some (.inl (nI j)), some (.inl l), some (.inl x), some (.inl (nI N)), some (.inl (nI (ftI s l (x + 3 * nI i) 3))), some (.inl (nI i)), z7, z8, z9, z10] [] f a1 := fun z7 => fin _ i P1 a1 _ _ _ _ hA1 hS e
            refine hX [259] 40 _ _ _ _ _ ?_
            exact ⟨fun _ => ⟨fun _ => F _, fun _ => ⟨fun _ => F _, fun q => absurd q nz⟩⟩, fun q => absurd q nz⟩
      -- the copy
      have copy : ∀ c, c ≤ 101 → ∀ a1, FA 27 a a1 → (∀ m, m < c → a1 5 0 27 m = a 5 0 0 m) → X 26 [some (.inr (.inr (5, 0, 0))), some (.inl (nI j)), some (.inl l), some (.inl x), some (.inl (nI N)), some (.inl (nI c)), none, none, none, none, none] [] f a1 := by
        refine forUp (Pr := fun c => ∀ a1, FA 27 a a1 → (∀ m, m < c → a1 5 0 27 m = a 5 0 0 m) → X 26 [some (.inr (.inr (5, 0, 0))), some (.inl (nI j)), some (.inl l), some (.inl x), some (.inl (nI N)), some (.inl (nI c)), none, none, none, none, none] [] f a1) ?_ ?_
        · intro c hc ih a1 hF hz
          have ec : (nI c).toNatClampNeg = c := nI_clamp (by omega)
          refine hX [26] 40 _ _ _ _ _ ?_
          refine ⟨fun q => absurd ((i_le (show (101 : Int32) = nI 101 from rfl) rfl (by decide) (by omega)).mp q) (by omega), fun _ => ⟨inA 101 rfl rfl hc (by decide), inA 101 rfl rfl hc (by decide), ?_⟩⟩
          have K := ih (upa a1 5 0 27 (nI c).toNatClampNeg (a1 5 0 0 (nI c).toNatClampNeg)) (hF.ua _ _) (fun m hm => by
            rw [upa_s, if_pos rfl, upd_s, ec]
            by_cases z : m = c
            · rw [if_pos z, hF.row (by decide), z]
            · rw [if_neg z]
              exact hz m (by omega))
          rw [← nI_1] at K
          exact K
        · intro a1 hF hz
          refine hX [62] 40 _ _ _ _ _ ?_
          refine ⟨fun _ => ?_, fun q => absurd (by decide) q⟩
          have hA1 : RepM f a1 A := hA.of rfl rfl rfl rfl (fun k hk => hF.row (by
            have : ∀ k, k ∈ [0, 1, 2, 4, 23, 24, 25] → k ≠ 27 := by decide
            exact this k hk))
          exact key N 0 (aP A) a1 (by omega) (Or.inl rfl) hO.1 hA1 hz (hF.s4 f) eR _ _ _
      exact copy 0 (Nat.zero_le _) a (FA.rf 27 a) (fun m hm => absurd hm (Nat.not_lt_zero m))
    · have d2 := b2i_e0.mp (ein.symm.trans d2)
      refine bad ?_
      unfold okR
      rw [d2, Bool.and_false, Bool.and_false]
  · exact h.elim
theorem shX5_read : ∀ As f a Q, sX5_read As f a Q → ∃ i r, As = .inr (.inr (5, i, 0)) :: r := by
  intro As f a Q h
  unfold sX5_read at h
  split at h
  · exact ⟨_, _, rfl⟩
  · exact h.elim
theorem mX5_read {g : Gm} (hg : GmOK g) : MetC g yX5_read cX5_read 11 (some .int) 4 sX5_read := by
  refine MetC_of hg eX5_read (eokX5_read hg) (by decide +kernel) (fun av f a post h => ?_) rX5_read
  unfold sX5_read at h
  split at h
  · exact Nat.le_of_ble_eq_true rfl
  · exact h.elim
