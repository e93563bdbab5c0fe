/-! the code of a call, of what is composed -/
def rowC (r : Nat → Nat → Nat) (i b : Nat) : Nat → Nat
  | 0 => b
  | k + 1 => rowC r i b k + wt i k * r i k
def matC (r : Nat → Nat → Nat) (n : Nat) : Nat → Nat
  | 0 => 0
  | i + 1 => rowC r i (matC r n i) n
theorem matC_code {P : Pg} (hW : WF P) {c : Nat} (hc : c < P.2.length) : matC (rel P c) (ar P (to P c)) (ar P (fr P c)) = codeN P c := by
  unfold codeN relM
  rcases hW.ar_fr hc with e1 | e1 <;> rcases hW.ar_to hc with e2 | e2 <;> rw [e1, e2] <;> simp [matC, rowC, wt, codeR] <;> omega
theorem RM.arm {w : Nat → Int32} {P : Pg} (h : RM w P) (hW : WF P) {x : Int32} {i : Nat} (hx : x = nI i) (hi : i < P.1.length) : w x.toNatClampNeg = nI (ar P i) := by
  have := hW.1
  rw [hx, nI_clamp (by omega)]
  exact h.2.2.1 i hi
def sX5_codeOf : SP := fun As f a Q => match As with
  | [.inr (.inr (5, 0, 0)), .inl c] => ∃ P n, RM (a 5 0 0) P ∧ WF P ∧ c = nI n ∧ n < P.2.length ∧ Q (some (.inl (nI (codeN P n)))) f a
  | _ => False
def eX5_codeOf : En := (tX5_codeOf, [(139, false, 3, sX5_of), (146, true, 2, sX5_weightOf), (149, false, 4, sX5_relationOf)], fdX5, [], 0)
theorem eokX5_codeOf {g : Gm} (hg : GmOK g) : EnvOK g 3 RX5 cX5_codeOf (some .int) eX5_codeOf := ⟨okX5_codeOf, fun _ _ _ _ h => as2_all (P := fun i v => CallOK g 3 RX5 i v.1 v.2.1 v.2.2) (l := eX5_codeOf.2.1) ⟨callV_ok (t := 5) hg (mX5_of hg) kX5_of mlX5_139 qX5_of.1 qX5_of.2 ⟨by decide, by decide⟩ ⟨_, _, rfl⟩ shX5_of, callS_ok hg (mX5_weightOf hg) kX5_weightOf mlX5_146 qX5_weightOf ⟨by decide, by decide⟩, callV_ok (t := 5) hg (mX5_relationOf hg) kX5_relationOf mlX5_149 qX5_relationOf.1 qX5_relationOf.2 ⟨by decide, by decide⟩ ⟨_, _, rfl⟩ shX5_relationOf, trivial⟩ h, fdX5_ok, (fun _ _ h => by cases h), rfl⟩
theorem rX5_codeOf (av : List AV) (f : FF) (a : AA) (post : PT) (h : sX5_codeOf av f a post) (X : XT) (hX : Clo eX5_codeOf post X) : X 0 (padL 5 (ent av)) [] f a := by
  unfold sX5_codeOf at h
  split at h
  · obtain ⟨P, n, hR, hW, rfl, hn, h⟩ := h
    have n12 := hR.ix hW hn
    obtain ⟨r0, r1, -⟩ := hR.2.2.2 n hn
    have l3 := hW.1
    have hf := hW.fr_lt hn
    have ht := hW.to_lt hn
    have af := hW.ar_fr hn
    have at_ := hW.ar_to hn
    have ef := hR.arm hW r0 hf
    have et := hR.arm hW r1 ht
    rw [← matC_code hW hn] at h
    refine hX [4] 20 _ _ _ _ _ ?_
    have outer : ∀ i, i ≤ ar P (fr P n) → ∀ z, X 4 [some (.inr (.inr (5, 0, 0))), some (.inl (nI n)), some (.inl (nI (matC (rel P n) (ar P (to P n)) i))), some (.inl (nI i)), z] [] f a := by
      refine forUp (Pr := fun i => ∀ z, X 4 [some (.inr (.inr (5, 0, 0))), some (.inl (nI n)), some (.inl (nI (matC (rel P n) (ar P (to P n)) i))), some (.inl (nI i)), z] [] f a) ?_ ?_
      · intro i hi ih z
        refine hX [22] 60 _ _ _ _ _ ?_
        refine ⟨n, 0, rfl, rfl, by omega, inA 101 r0 rfl (by omega) (by decide), ⟨fun q => absurd ((i_le ef rfl (by omega) (by omega)).mp q) (by omega), fun _ => ?_⟩⟩
        refine forUp (n := ar P (to P n)) (Pr := fun k => X 22 [some (.inr (.inr (5, 0, 0))), some (.inl (nI n)), some (.inl (nI (rowC (rel P n) i (matC (rel P n) (ar P (to P n)) i) k))), some (.inl (nI i)), some (.inl (nI k))] [] f a) ?_ ?_ 0 (Nat.zero_le _)
        · intro k hk ihk
          refine hX [22] 60 _ _ _ _ _ ?_
          refine ⟨n, 1, rfl, rfl, by omega, inA 101 r1 rfl (by omega) (by decide), ⟨fun q => absurd ((i_le et rfl (by omega) (by omega)).mp q) (by omega), fun _ => ?_⟩⟩
          refine ⟨i, k, rfl, rfl, by omega, by omega, P, n, i, k, hR, hW, rfl, rfl, rfl, hn, by omega, by omega, ?_⟩
          rw [← nI_1, show rowC (rel P n) i (matC (rel P n) (ar P (to P n)) i) (k + 1) = rowC (rel P n) i (matC (rel P n) (ar P (to P n)) i) k + wt i k * rel P n i k from rfl, ← nI_add, ← nI_mul] at ihk
          exact ihk
        · refine hX [4] 60 _ _ _ _ _ ?_
          refine ⟨n, 1, rfl, rfl, by omega, inA 101 r1 rfl (by omega) (by decide), ⟨fun _ => ?_, fun q => absurd ((i_le et rfl (by omega) (by omega)).mpr (Nat.le_refl _)) q⟩⟩
          have := ih (some (.inl (nI (ar P (to P n)))))
          rw [← nI_1] at this
          exact this
      · intro z
        refine hX [] 60 _ _ _ _ _ ?_
        exact ⟨n, 0, rfl, rfl, by omega, inA 101 r0 rfl (by omega) (by decide), ⟨fun _ => h, fun q => absurd ((i_le ef rfl (by omega) (by omega)).mpr (Nat.le_refl _)) q⟩⟩
    exact outer 0 (Nat.zero_le _) none
  · exact h.elim
theorem shX5_codeOf : ∀ As f a Q, sX5_codeOf As f a Q → ∃ i r, As = .inr (.inr (5, i, 0)) :: r := by
  intro As f a Q h
  unfold sX5_codeOf at h
  split at h
  · exact ⟨_, _, rfl⟩
  · exact h.elim
theorem mX5_codeOf {g : Gm} (hg : GmOK g) : MetC g yX5_codeOf cX5_codeOf 5 (some .int) 3 sX5_codeOf := by
  refine MetC_of hg eX5_codeOf (eokX5_codeOf hg) (by decide +kernel) (fun av f a post h => ?_) rX5_codeOf
  unfold sX5_codeOf at h
  split at h
  · exact Nat.le_of_ble_eq_true rfl
  · exact h.elim
def cmB (x y : Nat) : Nat := if x = 0 ∨ y = 0 then 0 else if x = 2 ∨ y = 2 then 2 else 1
def mxN (x b : Nat) : Nat := if x ≤ b then b else x
def cmR (c d i k : Nat) : Nat := mxN (cmB (rl c i 1) (rl d 1 k)) (mxN (cmB (rl c i 0) (rl d 0 k)) 0)
theorem cm_comp : ∀ c, c < 81 → ∀ d, d < 81 → codeR (cmR c d 0 0) (cmR c d 0 1) (cmR c d 1 0) (cmR c d 1 1) = compN c d := by decide +kernel
