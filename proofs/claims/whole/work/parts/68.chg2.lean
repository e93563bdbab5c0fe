theorem RM.app {w w' : Nat → Int32} {P : Pg} (h : RM w P) {x y : Nat} (hl : P.2.length < 12) (h3 : P.1.length ≤ 3) (h100 : w' 100 = nI (P.2.length + 1)) (e0 : w' (4 + 8 * P.2.length) = nI x) (e1 : w' (4 + 8 * P.2.length + 1) = nI y) (ez : ∀ k, 2 ≤ k → k < 8 → w' (4 + 8 * P.2.length + k) = 0) (hw : ∀ j, j < 4 + 8 * P.2.length → w' j = w j) : RM w' (P.1, P.2 ++ [(x, y, 0, 0)]) := by
  refine ⟨by rw [hw 3 (by omega)]; exact h.1, by rw [h100, List.length_append]; rfl, fun i hi => ?_, fun c hc => ?_⟩
  · have hi : i < P.1.length := hi
    rw [hw i (by omega)]
    exact h.2.2.1 i hi
  · have hc : c < P.2.length ∨ c = P.2.length := by
      have : c < (P.2 ++ [(x, y, 0, 0)]).length := hc
      rw [List.length_append] at this
      simp at this
      omega
    simp only [fr, to, ag]
    rw [cl_app]
    rcases hc with hc | rfl
    · rw [if_pos hc]
      obtain ⟨q0, q1, q2⟩ := h.2.2.2 c hc
      refine ⟨by rw [hw _ (by omega)]; exact q0, by rw [hw _ (by omega)]; exact q1, fun k hk => ?_⟩
      obtain ⟨q3, q4, q5⟩ := q2 k hk
      exact ⟨by rw [hw _ (by omega)]; exact q3, by rw [hw _ (by omega)]; exact q4, by rw [hw _ (by omega)]; exact q5⟩
    · rw [if_neg (Nat.lt_irrefl _), if_pos rfl]
      refine ⟨e0, e1, fun k hk => ?_⟩
      have eg : agq (x, y, 0, 0) k = 0 := by
        unfold agq
        split <;> rfl
      rw [eg]
      exact ⟨ez _ (by omega) (by omega), ez _ (by omega) (by omega), ez _ (by omega) (by omega)⟩
def sX5_add : SP := fun As f a Q => match As with
  | [.inr (.inr (5, 0, 0)), .inl x, .inl y] => ∃ A, RepM f a A ∧ OKA A ∧ ∀ f' a', RepM f' a' (nxAdd A x y) → S4 f a f' a' → Q (some (.inl (anAdd A x y))) f' a'
  | _ => False
def eX5_add : En := (tX5_add, [(211, false, 2, sX5_isFun)], fdX5, [], 0)
theorem eokX5_add {g : Gm} (hg : GmOK g) : EnvOK g 2 RX5 cX5_add (some .int) eX5_add := ⟨okX5_add, fun _ _ _ _ h => as2_all (P := fun i v => CallOK g 2 RX5 i v.1 v.2.1 v.2.2) (l := eX5_add.2.1) ⟨callV_ok (t := 5) hg (mX5_isFun hg) kX5_isFun mlX5_211 qX5_isFun.1 qX5_isFun.2 ⟨by decide, by decide⟩ ⟨_, _, rfl⟩ shX5_isFun, trivial⟩ h, fdX5_ok, (fun _ _ h => by cases h), rfl⟩
theorem rX5_add (av : List AV) (f : FF) (a : AA) (post : PT) (h : sX5_add av f a post) (X : XT) (hX : Clo eX5_add post X) : X 0 (padL 5 (ent av)) [] f a := by
  unfold sX5_add at h
  split at h
  · rename_i x y
    obtain ⟨A, hA, hO, h⟩ := h
    have hW := hO.1
    have n12 := hW.l12
    have n3 := hW.l3
    have e1 := hA.1.2.1
    unfold anAdd nxAdd at h
    have i100 : vp_in 100 (al 5 0) := inA 101 (n := 100) rfl rfl (by decide) (by decide)
    refine hX [49] 90 _ _ _ _ _ ?_
    refine ⟨aP A, hA.1, hW, ⟨fun d => ?_, fun d => ⟨aP A, hA.1, hW, ⟨fun d2 => ?_, fun d2 => ?_⟩⟩⟩⟩
    · have d : isF A x = false := b2i_e0.mp d
      simp only [d, Bool.false_and, Bool.false_eq_true, if_false] at h
      exact h f a hA (S4.rf f a)
    · have d : isF A x = true := b2i_n0.mp d
      have d2 : isF A y = true := b2i_n0.mp d2
      simp only [d, d2, Bool.and_self, if_true] at h
      have c12 : a 5 0 0 100 = 12 ↔ (aP A).2.length = 12 := i_eq (b := 12) e1 rfl (by omega) (by decide)
      refine ⟨i100, ⟨fun q => ?_, fun q => ?_⟩⟩
      · have d3 : (aP A).2.length < 12 := by have : ¬ (aP A).2.length = 12 := fun z => q (c12.mpr z); omega
        simp only [if_pos d3] at h
        obtain ⟨i, rfl, hi, hi3⟩ := isF_i hO d
        obtain ⟨j, rfl, hj, hj3⟩ := isF_i hO d2
        rw [nI_clamp (show i < 2 ^ 31 by omega), nI_clamp (show j < 2 ^ 31 by omega)] at h
        obtain ⟨P, eP⟩ : ∃ P, P = aP A := ⟨_, rfl⟩
        have hR := hA.1
        rw [← eP] at h e1 d3 n3 hR
        have ec : 4 + 8 * a 5 0 0 100 = nI (4 + 8 * P.2.length) := by
          rw [e1, show (4 : Int32) = nI 4 from rfl, show (8 : Int32) = nI 8 from rfl, nI_mul, nI_add]
        have loop : ∀ k, k ≤ 8 → ∀ a1, FA 0 a a1 → (∀ m, m < k → a1 5 0 0 (4 + 8 * P.2.length + m) = 0) → (∀ m, m < 4 + 8 * P.2.length ∨ m = 100 → a1 5 0 0 m = a 5 0 0 m) → X 49 [some (.inr (.inr (5, 0, 0))), some (.inl (nI i)), some (.inl (nI j)), some (.inl (nI (4 + 8 * P.2.length))), some (.inl (nI k))] [] f a1 := by
          refine forUp (Pr := fun k => ∀ a1, FA 0 a a1 → (∀ m, m < k → a1 5 0 0 (4 + 8 * P.2.length + m) = 0) → (∀ m, m < 4 + 8 * P.2.length ∨ m = 100 → a1 5 0 0 m = a 5 0 0 m) → X 49 [some (.inr (.inr (5, 0, 0))), some (.inl (nI i)), some (.inl (nI j)), some (.inl (nI (4 + 8 * P.2.length))), some (.inl (nI k))] [] f a1) ?_ ?_
          · intro k hk ih a1 hF hz hw
            have ei : (nI (4 + 8 * P.2.length) + nI k).toNatClampNeg = 4 + 8 * P.2.length + k := by rw [nI_add, nI_clamp (by omega)]
            refine hX [49] 40 _ _ _ _ _ ?_
            refine ⟨fun q => absurd ((i_le (show (8 : Int32) = nI 8 from rfl) rfl (by decide) (by omega)).mp q) (by omega), fun _ => ⟨inA 101 (nI_add _ _) rfl (by omega) (by decide), ?_⟩⟩
            have K := ih (upa a1 5 0 0 (nI (4 + 8 * P.2.length) + nI k).toNatClampNeg 0) (hF.ua _ _) (fun m hm => by
              rw [upa_s, if_pos rfl, upd_s, ei]
              by_cases z : 4 + 8 * P.2.length + m = 4 + 8 * P.2.length + k
              · rw [if_pos z]
              · rw [if_neg z]
                exact hz m (by omega)) (fun m hm => by
              rw [upa_s, if_pos rfl, upd_s, ei, if_neg (by omega)]
              exact hw m hm)
            rw [← nI_1] at K
            exact K
          · intro a1 hF hz hw
            refine hX [] 90 _ _ _ _ _ ?_
            refine ⟨fun _ => ?_, fun q => absurd (by decide) q⟩
            have e100 : a1 5 0 0 100 = nI P.2.length := by rw [hw 100 (Or.inr rfl)]; exact e1
            have ei0 : (nI (4 + 8 * P.2.length) + 0).toNatClampNeg = 4 + 8 * P.2.length := by rw [Int32.add_zero, nI_clamp (by omega)]
            have ei1 : (nI (4 + 8 * P.2.length) + 1).toNatClampNeg = 4 + 8 * P.2.length + 1 := by rw [nI_1, nI_clamp (by omega)]
            refine ⟨inA 101 (n := 4 + 8 * P.2.length) (Int32.add_zero _) rfl (by omega) (by decide), inA 101 (nI_1 _) rfl (by omega) (by decide), i100, i100, i100, ?_⟩
            obtain ⟨B, eB⟩ : ∃ B, B = upa (upa a1 5 0 0 (nI (4 + 8 * P.2.length) + 0).toNatClampNeg (nI i)) 5 0 0 (nI (4 + 8 * P.2.length) + 1).toNatClampNeg (nI j) := ⟨_, rfl⟩
            have hB : ∀ m, B 5 0 0 m = if m = 4 + 8 * P.2.length + 1 then nI j else if m = 4 + 8 * P.2.length then nI i else a1 5 0 0 m := fun m => by
              rw [eB, upa_s, if_pos rfl, upd_s, ei1, upa_s, if_pos rfl, upd_s, ei0]
            have hFB : FA 0 a B := by
              rw [eB]
              exact (hF.ua _ _).ua _ _
            have eB100 : B 5 0 0 100 + 1 = nI (P.2.length + 1) := by rw [hB, if_neg (by omega), if_neg (by omega), e100, nI_1]
            have hR2 : RM (upa B 5 0 0 100 (nI (P.2.length + 1)) 5 0 0) (P.1, P.2 ++ [(i, j, 0, 0)]) := by
              refine hR.app d3 n3 (by rw [upa_s, if_pos rfl, upd_s, if_pos rfl]) ?_ ?_ (fun k h2 h8 => ?_) (fun m hm => ?_)
              · rw [upa_s, if_pos rfl, upd_s, if_neg (by omega), hB, if_neg (by omega), if_pos rfl]
              · rw [upa_s, if_pos rfl, upd_s, if_neg (by omega), hB, if_pos rfl]
              · rw [upa_s, if_pos rfl, upd_s, if_neg (by omega), hB, if_neg (by omega), if_neg (by omega)]
                exact hz k h8
              · rw [upa_s, if_pos rfl, upd_s, if_neg (by omega), hB, if_neg (by omega), if_neg (by omega)]
                exact hw m (Or.inl hm)
            have hF2 : FA 0 a (upa B 5 0 0 100 (nI (P.2.length + 1))) := hFB.ua _ _
            have K := h _ _ (hA.fa0 hF2 hR2) (hF2.s4 f)
            refine pIV K ?_ rfl ?_
            · show _ = upa (upa (upa a1 5 0 0 (nI (4 + 8 * P.2.length) + 0).toNatClampNeg (nI i)) 5 0 0 (nI (4 + 8 * P.2.length) + 1).toNatClampNeg (nI j)) 5 0 0 100 (upa (upa a1 5 0 0 (nI (4 + 8 * P.2.length) + 0).toNatClampNeg (nI i)) 5 0 0 (nI (4 + 8 * P.2.length) + 1).toNatClampNeg (nI j) 5 0 0 100 + 1) 5 0 0 100
              rw [← eB, eB100, upa_s, if_pos rfl, upd_s, if_pos rfl]
            · show _ = upa (upa (upa a1 5 0 0 (nI (4 + 8 * P.2.length) + 0).toNatClampNeg (nI i)) 5 0 0 (nI (4 + 8 * P.2.length) + 1).toNatClampNeg (nI j)) 5 0 0 100 (upa (upa a1 5 0 0 (nI (4 + 8 * P.2.length) + 0).toNatClampNeg (nI i)) 5 0 0 (nI (4 + 8 * P.2.length) + 1).toNatClampNeg (nI j) 5 0 0 100 + 1)
              rw [← eB, eB100]
        refine ⟨i100, ?_⟩
        have K := loop 0 (Nat.zero_le _) a (FA.rf 0 a) (fun m hm => absurd hm (Nat.not_lt_zero m)) (fun m _ => rfl)
        rw [← ec] at K
        exact K
      · have d3 := c12.mp q
        simp only [if_neg (show ¬ (aP A).2.length < 12 by omega)] at h
        exact h f a hA (S4.rf f a)
    · have d2 : isF A y = false := b2i_e0.mp d2
      simp only [d2, Bool.and_false, Bool.false_eq_true, if_false] at h
      exact h f a hA (S4.rf f a)
  · exact h.elim
theorem shX5_add : ∀ As f a Q, sX5_add As f a Q → ∃ i r, As = .inr (.inr (5, i, 0)) :: r := by
  intro As f a Q h
  unfold sX5_add at h
  split at h
  · exact ⟨_, _, rfl⟩
  · exact h.elim
theorem mX5_add {g : Gm} (hg : GmOK g) : MetC g yX5_add cX5_add 5 (some .int) 2 sX5_add := by
  refine MetC_of hg eX5_add (eokX5_add hg) (by decide +kernel) (fun av f a post h => ?_) rX5_add
  unfold sX5_add at h
  split at h
  · exact Nat.le_of_ble_eq_true rfl
  · exact h.elim
/-! an argument becomes another one -/
def AB3 (w w' : Nat → Int32) (n j y : Nat) : Prop := w' (4 + 8 * n + (2 + 3 * j)) = nI (y / 100) ∧ w' (4 + 8 * n + (2 + 3 * j + 1)) = nI (y / 10 % 10) ∧ w' (4 + 8 * n + (2 + 3 * j + 2)) = nI (y % 10) ∧ ∀ m, m ≠ 4 + 8 * n + (2 + 3 * j) → m ≠ 4 + 8 * n + (2 + 3 * j + 1) → m ≠ 4 + 8 * n + (2 + 3 * j + 2) → w' m = w m
def sX5_argumentBecomes : SP := fun As f a Q => match As with
  | [.inr (.inr (5, 0, 0)), .inl c, .inl k, .inl x] => ∃ n j y, c = nI n ∧ n < 12 ∧ k = nI j ∧ j < 2 ∧ x = nI y ∧ y < 500 ∧ ∀ a', FA 0 a a' → AB3 (a 5 0 0) (a' 5 0 0) n j y → Q none f a'
  | _ => False
def eX5_argumentBecomes : En := (tX5_argumentBecomes, [], fdX5, [], 2)
theorem eokX5_argumentBecomes {g : Gm} (hg : GmOK g) : EnvOK g 0 RX5 cX5_argumentBecomes none eX5_argumentBecomes := ⟨okX5_argumentBecomes, (fun _ _ _ _ h => by cases h), fdX5_ok, (fun _ _ h => by cases h), rfl⟩
theorem rX5_argumentBecomes (av : List AV) (f : FF) (a : AA) (post : PT) (h : sX5_argumentBecomes av f a post) (X : XT) (hX : Clo eX5_argumentBecomes post X) : X 0 (padL 5 (ent av)) [] f a := by
  unfold sX5_argumentBecomes at h
  split at h
  · obtain ⟨n, j, y, rfl, hn, rfl, hj, rfl, hy, h⟩ := h
    have d0 : nI y / 100 = nI (y / 100) := pk_div (d := 100) (by omega) (by decide) (by decide)
    have d1 : nI y / 10 - nI y / 10 / 10 * 10 = nI (y / 10 % 10) := by
      rw [show nI y / 10 = nI (y / 10) from pk_div (d := 10) (by omega) (by decide) (by decide)]
      exact pk_rem (d := 10) (by omega) (by decide) (by decide)
    have d2 : nI y - nI y / 10 * 10 = nI (y % 10) := pk_rem (d := 10) (by omega) (by decide) (by decide)
    have e0 : 4 + 8 * nI n + 2 + 3 * nI j = nI (4 + 8 * n + (2 + 3 * j)) := by
      rw [show (4 : Int32) = nI 4 from rfl, show (8 : Int32) = nI 8 from rfl, show (2 : Int32) = nI 2 from rfl, show (3 : Int32) = nI 3 from rfl, nI_mul, nI_mul, nI_add, nI_add, nI_add]
      exact congrArg nI (by omega)
    have e1 : 4 + 8 * nI n + 2 + 3 * nI j + 1 = nI (4 + 8 * n + (2 + 3 * j + 1)) := by
      rw [e0, nI_1]
      exact congrArg nI (by omega)
    have e2 : 4 + 8 * nI n + 2 + 3 * nI j + 2 = nI (4 + 8 * n + (2 + 3 * j + 2)) := by
      rw [e0, show (2 : Int32) = nI 2 from rfl, nI_add]
      exact congrArg nI (by omega)
    refine hX [] 60 _ _ _ _ _ ?_
    refine ⟨by decide, inA 101 e0 rfl (by omega) (by decide), by decide, by decide, inA 101 e1 rfl (by omega) (by decide), by decide, inA 101 e2 rfl (by omega) (by decide), ?_⟩
    refine pV (h (upa (upa (upa a 5 0 0 (4 + 8 * n + (2 + 3 * j)) (nI (y / 100))) 5 0 0 (4 + 8 * n + (2 + 3 * j + 1)) (nI (y / 10 % 10))) 5 0 0 (4 + 8 * n + (2 + 3 * j + 2)) (nI (y % 10))) ((((FA.rf 0 a).ua _ _).ua _ _).ua _ _) ⟨?_, ?_, ?_, fun m h0 h1 h2 => ?_⟩) rfl ?_
    · rw [upa_s, if_pos rfl, upd_s, if_neg (by omega), upa_s, if_pos rfl, upd_s, if_neg (by omega), upa_s, if_pos rfl, upd_s, if_pos rfl]
    · rw [upa_s, if_pos rfl, upd_s, if_neg (by omega), upa_s, if_pos rfl, upd_s, if_pos rfl]
    · rw [upa_s, if_pos rfl, upd_s, if_pos rfl]
    · rw [upa_s, if_pos rfl, upd_s, if_neg h2, upa_s, if_pos rfl, upd_s, if_neg h1, upa_s, if_pos rfl, upd_s, if_neg h0]
    · dsimp only
      rw [e1, e2, e0, d0, d1, d2, nI_clamp (by omega), nI_clamp (by omega), nI_clamp (by omega)]
  · exact h.elim
theorem shX5_argumentBecomes : ∀ As f a Q, sX5_argumentBecomes As f a Q → ∃ i r, As = .inr (.inr (5, i, 0)) :: r := by
  intro As f a Q h
  unfold sX5_argumentBecomes at h
  split at h
  · exact ⟨_, _, rfl⟩
  · exact h.elim
theorem mX5_argumentBecomes {g : Gm} (hg : GmOK g) : MetC g yX5_argumentBecomes cX5_argumentBecomes 5 none 0 sX5_argumentBecomes := by
  refine MetC_of hg eX5_argumentBecomes (eokX5_argumentBecomes hg) (by decide +kernel) (fun av f a post h => ?_) rX5_argumentBecomes
  unfold sX5_argumentBecomes at h
  split at h
  · exact Nat.le_of_ble_eq_true rfl
  · exact h.elim
theorem RM.stA {w w' : Nat → Int32} {P : Pg} (h : RM w P) {c k x : Nat} (hc : c < P.2.length) (h12 : P.2.length ≤ 12) (h3 : P.1.length ≤ 3) (hk : k < 2) (hw : AB3 w w' c k x) : RM w' (setA P c k x) := by
  obtain ⟨b0, b1, b2, bw⟩ := hw
  refine ⟨by rw [bw 3 (by omega) (by omega) (by omega)]; exact h.1, by rw [bw 100 (by omega) (by omega) (by omega), len_setA]; exact h.2.1, fun i hi => ?_, fun j hj => ?_⟩
  · have hi : i < P.1.length := hi
    rw [bw i (by omega) (by omega) (by omega)]
    exact h.2.2.1 i hi
  · rw [len_setA] at hj
    obtain ⟨q0, q1, q2⟩ := h.2.2.2 j hj
    rw [fr_setA hc, to_setA hc]
    refine ⟨by rw [bw _ (by omega) (by omega) (by omega)]; exact q0, by rw [bw _ (by omega) (by omega) (by omega)]; exact q1, fun i hi => ?_⟩
    obtain ⟨q3, q4, q5⟩ := q2 i hi
    rw [ag_setA hc hk hi]
    by_cases hh : j = c ∧ i = k
    · obtain ⟨rfl, rfl⟩ := hh
      rw [if_pos ⟨rfl, rfl⟩]
      exact ⟨b0, b1, b2⟩
    · rw [if_neg hh]
      exact ⟨by rw [bw _ (by omega) (by omega) (by omega)]; exact q3, by rw [bw _ (by omega) (by omega) (by omega)]; exact q4, by rw [bw _ (by omega) (by omega) (by omega)]; exact q5⟩
def sX5_set : SP := fun As f a Q => match As with
  | [.inr (.inr (5, 0, 0)), .inl c, .inl k, .inl x] => ∃ A, RepM f a A ∧ OKA A ∧ ∀ f' a', RepM f' a' (nxSet A c k x) → S4 f a f' a' → f' = f → FA 0 a a' → Q (some (.inl (anSet A c k x))) f' a'
  | _ => False
def eX5_set : En := (tX5_set, [(228, false, 3, sX5_isArgument), (139, false, 3, sX5_of), (240, true, 2, sX5_mayBe), (243, false, 3, sX5_toldOf), (246, false, 4, sX5_argumentBecomes)], fdX5, [], 0)
theorem eokX5_set {g : Gm} (hg : GmOK g) : EnvOK g 3 RX5 cX5_set (some .int) eX5_set := ⟨okX5_set, fun _ _ _ _ h => as2_all (P := fun i v => CallOK g 3 RX5 i v.1 v.2.1 v.2.2) (l := eX5_set.2.1) ⟨callV_ok (t := 5) hg (mX5_isArgument hg) kX5_isArgument mlX5_228 qX5_isArgument.1 qX5_isArgument.2 ⟨by decide, by decide⟩ ⟨_, _, rfl⟩ shX5_isArgument, callV_ok (t := 5) hg (mX5_of hg) kX5_of mlX5_139 qX5_of.1 qX5_of.2 ⟨by decide, by decide⟩ ⟨_, _, rfl⟩ shX5_of, callS_ok hg (mX5_mayBe hg) kX5_mayBe mlX5_240 qX5_mayBe ⟨by decide, by decide⟩, callV_ok (t := 5) hg (mX5_toldOf hg) kX5_toldOf mlX5_243 qX5_toldOf.1 qX5_toldOf.2 ⟨by decide, by decide⟩ ⟨_, _, rfl⟩ shX5_toldOf, callV_ok (t := 5) hg (mX5_argumentBecomes hg) kX5_argumentBecomes mlX5_246 qX5_argumentBecomes.1 qX5_argumentBecomes.2 ⟨by decide, by decide⟩ ⟨_, _, rfl⟩ shX5_argumentBecomes, trivial⟩ h, fdX5_ok, (fun _ _ h => by cases h), rfl⟩
theorem rX5_set (av : List AV) (f : FF) (a : AA) (post : PT) (h : sX5_set av f a post) (X : XT) (hX : Clo eX5_set post X) : X 0 (padL 5 (ent av)) [] f a := by
  unfold sX5_set at h
  split at h
  · rename_i c k x
    obtain ⟨A, hA, hO, h⟩ := h
    have hW := hO.1
    have n12 := hW.l12
    have n3 := hW.l3
    unfold anSet nxSet at h
    refine hX [] 90 _ _ _ _ _ ?_
    refine ⟨aP A, hA.1, hW, ⟨fun d => ?_, fun d => ?_⟩⟩
    · have d := b2i_e0.mp d
      have ht : takesB (aP A) c k x = false := by
        unfold takesB
        rw [d, Bool.false_and]
      simp only [ht, Bool.false_eq_true, if_false] at h
      exact h f a hA (S4.rf f a) rfl (FA.rf 0 a)
    · have d := b2i_n0.mp d
      obtain ⟨n, j, rfl, hn, rfl, hj⟩ := hasA_spec hW d
      have hat := hW.ar_to hn
      have haf := hW.ar_fr hn
      have hf := hW.fr_lt hn
      obtain ⟨r0, r1, rk⟩ := hA.1.2.2.2 n hn
      refine ⟨n, 0, rfl, rfl, by omega, inA 101 r0 rfl (by omega) (by decide), ar (aP A) (fr (aP A) n), hA.1.arm hW r0 hf, by omega, ⟨fun d2 => ?_, fun d2 => ?_⟩⟩
      · have d2 := b2i_n0.mp d2
        have ht : takesB (aP A) (nI n) (nI j) x = true := by
          unfold takesB
          rw [d, Bool.true_and, nI_clamp (show n < 2 ^ 31 by omega)]
          exact d2
        obtain ⟨n', m', y, en, hn', em, hm', rfl, hy, hok⟩ := takes_spec hW ht
        simp only [ht, if_true, nI_clamp (show n < 2 ^ 31 by omega), nI_clamp (show j < 2 ^ 31 by omega), nI_clamp (show y < 2 ^ 31 by omega)] at h
        refine ⟨aP A, n, j, hA.1, hW, rfl, rfl, hn, by omega, n, j, y, rfl, by omega, rfl, by omega, rfl, hy, fun a1 hF hB => ?_⟩
        exact h f a1 (hA.fa0 hF (hA.1.stA hn n12 n3 (by omega) hB)) (hF.s4 f) rfl hF
      · have d2 := b2i_e0.mp d2
        have ht : takesB (aP A) (nI n) (nI j) x = false := by
          unfold takesB
          rw [d, Bool.true_and, nI_clamp (show n < 2 ^ 31 by omega)]
          exact d2
        simp only [ht, Bool.false_eq_true, if_false] at h
        exact h f a hA (S4.rf f a) rfl (FA.rf 0 a)
  · exact h.elim
theorem shX5_set : ∀ As f a Q, sX5_set As f a Q → ∃ i r, As = .inr (.inr (5, i, 0)) :: r := by
  intro As f a Q h
  unfold sX5_set at h
  split at h
  · exact ⟨_, _, rfl⟩
  · exact h.elim
theorem mX5_set {g : Gm} (hg : GmOK g) : MetC g yX5_set cX5_set 5 (some .int) 3 sX5_set := by
  refine MetC_of hg eX5_set (eokX5_set hg) (by decide +kernel) (fun av f a post h => ?_) rX5_set
  unfold sX5_set at h
  split at h
  · exact Nat.le_of_ble_eq_true rfl
  · exact h.elim
