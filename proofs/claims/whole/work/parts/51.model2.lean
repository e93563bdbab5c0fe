/-! the code of a call, of what is composed -/
def rowC (r : Nat → Nat → Nat) (i b : Nat) : Nat → Nat
  | 0 => b
  | k + 1 => rowC r i b k + wt i k * r i k
def matC (r : Nat → Nat → Nat) (n : Nat) : Nat → Nat
  | 0 => 0
  | i + 1 => rowC r i (matC r n i) n
theorem matC_code {P : Pg} (hW : WF P) {c : Nat} (hc : c < P.2.length) : matC (rel P c) (ar P (to P c)) (ar P (fr P c)) = codeN P c := by
  unfold codeN relM
  rcases hW.ar_fr hc with e1 | e1 <;> rcases hW.ar_to hc with e2 | e2 <;> rw [e1, e2] <;> simp [matC, rowC, wt, codeR] <;> omega
theorem RM.arm {w : Nat → Int32} {P : Pg} (h : RM w P) (hW : WF P) {x : Int32} {i : Nat} (hx : x = nI i) (hi : i < P.1.length) : w x.toNatClampNeg = nI (ar P i) := by
  have := hW.1
  rw [hx, nI_clamp (by omega)]
  exact h.2.2.1 i hi
def sX5_codeOf : SP := fun As f a Q => match As with
  | [.inr (.inr (5, 0, 0)), .inl c] => ∃ P n, RM (a 5 0 0) P ∧ WF P ∧ c = nI n ∧ n < P.2.length ∧ Q (some (.inl (nI (codeN P n)))) f a
  | _ => False
def eX5_codeOf : En := (tX5_codeOf, [(139, false, 3, sX5_of), (146, true, 2, sX5_weightOf), (149, false, 4, sX5_relationOf)], fdX5, [], 0)
theorem eokX5_codeOf {g : Gm} (hg : GmOK g) : EnvOK g 3 RX5 cX5_codeOf (some .int) eX5_codeOf := ⟨okX5_codeOf, fun _ _ _ _ h => as2_all (P := fun i v => CallOK g 3 RX5 i v.1 v.2.1 v.2.2) (l := eX5_codeOf.2.1) ⟨callV_ok (t := 5) hg (mX5_of hg) kX5_of mlX5_139 qX5_of.1 qX5_of.2 ⟨by decide, by decide⟩ ⟨_, _, rfl⟩ shX5_of, callS_ok hg (mX5_weightOf hg) kX5_weightOf mlX5_146 qX5_weightOf ⟨by decide, by decide⟩, callV_ok (t := 5) hg (mX5_relationOf hg) kX5_relationOf mlX5_149 qX5_relationOf.1 qX5_relationOf.2 ⟨by decide, by decide⟩ ⟨_, _, rfl⟩ shX5_relationOf, trivial⟩ h, fdX5_ok, (fun _ _ h => by cases h), rfl⟩
theorem rX5_codeOf (av : List AV) (f : FF) (a : AA) (post : PT) (h : sX5_codeOf av f a post) (X : XT) (hX : Clo eX5_codeOf post X) : X 0 (padL 5 (ent av)) [] f a := by
  unfold sX5_codeOf at h
  split at h
  · obtain ⟨P, n, hR, hW, rfl, hn, h⟩ := h
    have n12 := hR.ix hW hn
    obtain ⟨r0, r1, -⟩ := hR.2.2.2 n hn
    have l3 := hW.1
    have hf := hW.fr_lt hn
    have ht := hW.to_lt hn
    have af := hW.ar_fr hn
    have at_ := hW.ar_to hn
    have ef := hR.arm hW r0 hf
    have et := hR.arm hW r1 ht
    rw [← matC_code hW hn] at h
    refine hX [4] 20 _ _ _ _ _ ?_
    have outer : ∀ i, i ≤ ar P (fr P n) → ∀ z, X 4 [some (.inr (.inr (5, 0, 0))), some (.inl (nI n)), some (.inl (nI (matC (rel P n) (ar P (to P n)) i))), some (.inl (nI i)), z] [] f a := by
      refine forUp (Pr := fun i => ∀ z, X 4 [some (.inr (.inr (5, 0, 0))), some (.inl (nI n)), some (.inl (nI (matC (rel P n) (ar P (to P n)) i))), some (.inl (nI i)), z] [] f a) ?_ ?_
      · intro i hi ih z
        refine hX [22] 60 _ _ _ _ _ ?_
        refine ⟨n, 0, rfl, rfl, by omega, inA 101 r0 rfl (by omega) (by decide), ⟨fun q => absurd ((i_le ef rfl (by omega) (by omega)).mp q) (by omega), fun _ => ?_⟩⟩
        refine forUp (n := ar P (to P n)) (Pr := fun k => X 22 [some (.inr (.inr (5, 0, 0))), some (.inl (nI n)), some (.inl (nI (rowC (rel P n) i (matC (rel P n) (ar P (to P n)) i) k))), some (.inl (nI i)), some (.inl (nI k))] [] f a) ?_ ?_ 0 (Nat.zero_le _)
        · intro k hk ihk
          refine hX [22] 60 _ _ _ _ _ ?_
          refine ⟨n, 1, rfl, rfl, by omega, inA 101 r1 rfl (by omega) (by decide), ⟨fun q => absurd ((i_le et rfl (by omega) (by omega)).mp q) (by omega), fun _ => ?_⟩⟩
          refine ⟨i, k, rfl, rfl, by omega, by omega, P, n, i, k, hR, hW, rfl, rfl, rfl, hn, by omega, by omega, ?_⟩
          rw [← nI_1, show rowC (rel P n) i (matC (rel P n) (ar P (to P n)) i) (k + 1) = rowC (rel P n) i (matC (rel P n) (ar P (to P n)) i) k + wt i k * rel P n i k from rfl, ← nI_add, ← nI_mul] at ihk
          exact ihk
        · refine hX [4] 60 _ _ _ _ _ ?_
          refine ⟨n, 1, rfl, rfl, by omega, inA 101 r1 rfl (by omega) (by decide), ⟨fun _ => ?_, fun q => absurd ((i_le et rfl (by omega) (by omega)).mpr (Nat.le_refl _)) q⟩⟩
          have := ih (some (.inl (nI (ar P (to P n)))))
          rw [← nI_1] at this
          exact this
      · intro z
        refine hX [] 60 _ _ _ _ _ ?_
        exact ⟨n, 0, rfl, rfl, by omega, inA 101 r0 rfl (by omega) (by decide), ⟨fun _ => h, fun q => absurd ((i_le ef rfl (by omega) (by omega)).mpr (Nat.le_refl _)) q⟩⟩
    exact outer 0 (Nat.zero_le _) none
  · exact h.elim
theorem shX5_codeOf : ∀ As f a Q, sX5_codeOf As f a Q → ∃ i r, As = .inr (.inr (5, i, 0)) :: r := by
  intro As f a Q h
  unfold sX5_codeOf at h
  split at h
  · exact ⟨_, _, rfl⟩
  · exact h.elim
theorem mX5_codeOf {g : Gm} (hg : GmOK g) : MetC g yX5_codeOf cX5_codeOf 5 (some .int) 3 sX5_codeOf := by
  refine MetC_of hg eX5_codeOf (eokX5_codeOf hg) (by decide +kernel) (fun av f a post h => ?_) rX5_codeOf
  unfold sX5_codeOf at h
  split at h
  · exact Nat.le_of_ble_eq_true rfl
  · exact h.elim
def cmB (x y : Nat) : Nat := if x = 0 ∨ y = 0 then 0 else if x = 2 ∨ y = 2 then 2 else 1
def mxN (x b : Nat) : Nat := if x ≤ b then b else x
def cmR (c d i k : Nat) : Nat := mxN (cmB (rl c i 1) (rl d 1 k)) (mxN (cmB (rl c i 0) (rl d 0 k)) 0)
theorem cm_comp : ∀ c, c < 81 → ∀ d, d < 81 → codeR (cmR c d 0 0) (cmR c d 0 1) (cmR c d 1 0) (cmR c d 1 1) = compN c d := by decide +kernel
def bmN (c d i k : Nat) : Nat → Nat
  | 0 => 0
  | m + 1 => mxN (cmB (rl c i m) (rl d m k)) (bmN c d i k m)
theorem bmN_2 (c d i k : Nat) : bmN c d i k 2 = cmR c d i k := rfl
theorem matC_comp {c d : Nat} (hc : c < 81) (hd : d < 81) : matC (cmR c d) 2 2 = compN c d := by
  rw [← cm_comp c hc d hd]
  simp [matC, rowC, wt, codeR]
theorem rl_lt (c i k : Nat) : rl c i k < 3 := Nat.mod_lt _ (by decide)
theorem cmB_lt (x y : Nat) : cmB x y < 3 := by
  unfold cmB
  repeat' split
  all_goals decide
theorem bmN_lt (c d i k : Nat) : ∀ m, bmN c d i k m < 3
  | 0 => by show 0 < 3; decide
  | m + 1 => by
    have h1 := bmN_lt c d i k m
    have h2 := cmB_lt (rl c i m) (rl d m k)
    unfold bmN mxN
    split <;> assumption
def sX5_composed : SP := fun As f a Q => match As with
  | [.inl x, .inl y] => ∃ c d, x = nI c ∧ y = nI d ∧ c < 81 ∧ d < 81 ∧ Q (some (.inl (nI (compN c d)))) f a
  | _ => False
def eX5_composed : En := (tX5_composed, [(152, true, 3, sX5_relation), (146, true, 2, sX5_weightOf)], fdX5, [], 0)
theorem eokX5_composed {g : Gm} (hg : GmOK g) : EnvOK g 2 RX5 cX5_composed (some .int) eX5_composed := ⟨okX5_composed, fun _ _ _ _ h => as2_all (P := fun i v => CallOK g 2 RX5 i v.1 v.2.1 v.2.2) (l := eX5_composed.2.1) ⟨callS_ok hg (mX5_relation hg) kX5_relation mlX5_152 qX5_relation ⟨by decide, by decide⟩, callS_ok hg (mX5_weightOf hg) kX5_weightOf mlX5_146 qX5_weightOf ⟨by decide, by decide⟩, trivial⟩ h, fdX5_ok, (fun _ _ h => by cases h), rfl⟩
theorem rX5_composed (av : List AV) (f : FF) (a : AA) (post : PT) (h : sX5_composed av f a post) (X : XT) (hX : Clo eX5_composed post X) : X 0 (padL 10 (ent av)) [] f a := by
  unfold sX5_composed at h
  split at h
  · obtain ⟨c, d, rfl, rfl, hc, hd, h⟩ := h
    rw [← matC_comp hc hd] at h
    refine hX [4] 20 _ _ _ _ _ ?_
    have inner : ∀ i k v, i < 2 → k < 2 → ((∀ z7 z8 z9, X 104 [some (.inl (nI c)), some (.inl (nI d)), some (.inl v), some (.inl (nI i)), some (.inl (nI k)), some (.inl (nI (cmR c d i k))), some (.inl (nI 2)), z7, z8, z9] [] f a)) → ∀ m, m ≤ 2 → ∀ z7 z8 z9, X 24 [some (.inl (nI c)), some (.inl (nI d)), some (.inl v), some (.inl (nI i)), some (.inl (nI k)), some (.inl (nI (bmN c d i k m))), some (.inl (nI m)), z7, z8, z9] [] f a := by
      intro i k v hi hk K
      refine forUp (Pr := fun m => ∀ z7 z8 z9, X 24 [some (.inl (nI c)), some (.inl (nI d)), some (.inl v), some (.inl (nI i)), some (.inl (nI k)), some (.inl (nI (bmN c d i k m))), some (.inl (nI m)), z7, z8, z9] [] f a) ?_ ?_
      · intro m hm ih z7 z8 z9
        have hb := bmN_lt c d i k m
        have a3 := rl_lt c i m
        have b3 := rl_lt d m k
        have e3 := cmB_lt (rl c i m) (rl d m k)
        have ea : ∀ j, j < 3 → (nI (rl c i m) = nI j ↔ rl c i m = j) := fun j hj => nI_eq (by omega) (by omega)
        have eb : ∀ j, j < 3 → (nI (rl d m k) = nI j ↔ rl d m k = j) := fun j hj => nI_eq (by omega) (by omega)
        have h80 : ∀ v9, v9 = cmB (rl c i m) (rl d m k) → X 80 [some (.inl (nI c)), some (.inl (nI d)), some (.inl v), some (.inl (nI i)), some (.inl (nI k)), some (.inl (nI (bmN c d i k m))), some (.inl (nI m)), some (.inl (nI (rl c i m))), some (.inl (nI (rl d m k))), z9] [.inl (nI v9)] f a := fun v9 e9 => by
          subst e9
          refine hX [24] 60 _ _ _ _ _ ?_
          have ih := ih (some (.inl (nI (rl c i m)))) (some (.inl (nI (rl d m k)))) (some (.inl (nI (cmB (rl c i m) (rl d m k)))))
          rw [← nI_1, show bmN c d i k (m + 1) = mxN (cmB (rl c i m) (rl d m k)) (bmN c d i k m) from rfl] at ih
          have hle : nI (cmB (rl c i m) (rl d m k)) ≤ nI (bmN c d i k m) ↔ cmB (rl c i m) (rl d m k) ≤ bmN c d i k m := nI_leI (by omega) (by omega)
          unfold mxN at ih
          refine ⟨fun q => ?_, fun q => ?_⟩
          · rw [if_pos (hle.mp q)] at ih
            exact ih
          · rw [if_neg (fun z => q (hle.mpr z))] at ih
            exact ih
        unfold cmB at h80
        refine hX [59, 75, 80] 60 _ _ _ _ _ ?_
        have h59 : (rl c i m = 0 ∨ rl d m k = 0) → X 59 [some (.inl (nI c)), some (.inl (nI d)), some (.inl v), some (.inl (nI i)), some (.inl (nI k)), some (.inl (nI (bmN c d i k m))), some (.inl (nI m)), some (.inl (nI (rl c i m))), some (.inl (nI (rl d m k))), z9] [] f a := fun z => hX [80] 20 _ _ _ _ _ (h80 0 (by rw [if_pos z]))
        have h75 : ¬ (rl c i m = 0 ∨ rl d m k = 0) → (rl c i m = 2 ∨ rl d m k = 2) → X 75 [some (.inl (nI c)), some (.inl (nI d)), some (.inl v), some (.inl (nI i)), some (.inl (nI k)), some (.inl (nI (bmN c d i k m))), some (.inl (nI m)), some (.inl (nI (rl c i m))), some (.inl (nI (rl d m k))), z9] [] f a := fun z1 z => hX [80] 20 _ _ _ _ _ (h80 2 (by rw [if_neg z1, if_pos z]))
        refine ⟨fun q => absurd ((i_le (show (2 : Int32) = nI 2 from rfl) rfl (by decide) (by omega)).mp q) (by omega), fun _ => ?_⟩
        refine ⟨c, i, m, rfl, rfl, rfl, hc, hi, hm, d, m, k, rfl, rfl, rfl, hd, hm, hk, ?_⟩
        refine ⟨fun q1 => h59 (Or.inl ((ea 0 (by decide)).mp q1)), fun q1 => ⟨fun q2 => ?_, fun q2 => h59 (Or.inr ((eb 0 (by decide)).mp q2))⟩⟩
        have n0 : ¬ (rl c i m = 0 ∨ rl d m k = 0) := fun z => z.elim (fun y => q1 ((ea 0 (by decide)).mpr y)) (fun y => q2 ((eb 0 (by decide)).mpr y))
        refine ⟨fun q3 => h75 n0 (Or.inl ((ea 2 (by decide)).mp q3)), fun q3 => ⟨fun q4 => ?_, fun q4 => h75 n0 (Or.inr ((eb 2 (by decide)).mp q4))⟩⟩
        exact h80 1 (by rw [if_neg n0, if_neg (fun z => z.elim (fun y => q3 ((ea 2 (by decide)).mpr y)) (fun y => q4 ((eb 2 (by decide)).mpr y)))])
      · intro z7 z8 z9
        refine hX [104] 40 _ _ _ _ _ ?_
        refine ⟨fun _ => K z7 z8 z9, fun q => absurd (by decide) q⟩
    have middle : ∀ i v, i < 2 → (∀ z5 z6 z7 z8 z9, X 122 [some (.inl (nI c)), some (.inl (nI d)), some (.inl (nI (rowC (cmR c d) i v 2))), some (.inl (nI i)), some (.inl (nI 2)), z5, z6, z7, z8, z9] [] f a) → ∀ k, k ≤ 2 → ∀ z5 z6 z7 z8 z9, X 12 [some (.inl (nI c)), some (.inl (nI d)), some (.inl (nI (rowC (cmR c d) i v k))), some (.inl (nI i)), some (.inl (nI k)), z5, z6, z7, z8, z9] [] f a := by
      intro i v hi K
      refine forUp (Pr := fun k => ∀ z5 z6 z7 z8 z9, X 12 [some (.inl (nI c)), some (.inl (nI d)), some (.inl (nI (rowC (cmR c d) i v k))), some (.inl (nI i)), some (.inl (nI k)), z5, z6, z7, z8, z9] [] f a) ?_ ?_
      · intro k hk ih z5 z6 z7 z8 z9
        refine hX [24] 40 _ _ _ _ _ ?_
        refine ⟨fun q => absurd ((i_le (show (2 : Int32) = nI 2 from rfl) rfl (by decide) (by omega)).mp q) (by omega), fun _ => ?_⟩
        refine inner i k _ hi hk (fun z7 z8 z9 => ?_) 0 (by decide) z7 z8 z9
        refine hX [12] 40 _ _ _ _ _ ?_
        refine ⟨i, k, rfl, rfl, hi, hk, ?_⟩
        have ih := ih (some (.inl (nI (cmR c d i k)))) (some (.inl (nI 2))) z7 z8 z9
        rw [← nI_1, show rowC (cmR c d) i v (k + 1) = rowC (cmR c d) i v k + wt i k * cmR c d i k from rfl, ← nI_add, ← nI_mul] at ih
        exact ih
      · intro z5 z6 z7 z8 z9
        refine hX [122] 40 _ _ _ _ _ ?_
        refine ⟨fun _ => K z5 z6 z7 z8 z9, fun q => absurd (by decide) q⟩
    have outer : ∀ i, i ≤ 2 → ∀ z4 z5 z6 z7 z8 z9, X 4 [some (.inl (nI c)), some (.inl (nI d)), some (.inl (nI (matC (cmR c d) 2 i))), some (.inl (nI i)), z4, z5, z6, z7, z8, z9] [] f a := by
      refine forUp (Pr := fun i => ∀ z4 z5 z6 z7 z8 z9, X 4 [some (.inl (nI c)), some (.inl (nI d)), some (.inl (nI (matC (cmR c d) 2 i))), some (.inl (nI i)), z4, z5, z6, z7, z8, z9] [] f a) ?_ ?_
      · intro i hi ih z4 z5 z6 z7 z8 z9
        refine hX [12] 40 _ _ _ _ _ ?_
        refine ⟨fun q => absurd ((i_le (show (2 : Int32) = nI 2 from rfl) rfl (by decide) (by omega)).mp q) (by omega), fun _ => ?_⟩
        refine middle i (matC (cmR c d) 2 i) hi (fun z5 z6 z7 z8 z9 => ?_) 0 (by decide) z5 z6 z7 z8 z9
        refine hX [4] 40 _ _ _ _ _ ?_
        have ih := ih (some (.inl (nI 2))) z5 z6 z7 z8 z9
        rw [← nI_1] at ih
        exact ih
      · intro z4 z5 z6 z7 z8 z9
        refine hX [] 40 _ _ _ _ _ ?_
        refine ⟨fun _ => h, fun q => absurd (by decide) q⟩
    exact outer 0 (by decide) none none none none none none
  · exact h.elim
theorem mX5_composed {g : Gm} (hg : GmOK g) : MetC g yX5_composed cX5_composed 10 (some .int) 2 sX5_composed := by
  refine MetC_of hg eX5_composed (eokX5_composed hg) (by decide +kernel) (fun av f a post h => ?_) rX5_composed
  unfold sX5_composed at h
  split at h
  · exact Nat.le_of_ble_eq_true rfl
  · exact h.elim
