/-! Program: graphs of calls, runs, what an argument may become -/
def plainN (P : Pg) : Nat := sumN (fun c => cnt (fun k => decide (ag P c k / 100 = 0)) (ar P (to P c))) P.2.length
def sX1_plainNumbers : SP := fun As f a Q => match As with
  | [.inr (.inr (1, p, 0))] => ∃ P, RC (f 1 p) (a 1 p) P ∧ WF P ∧ Q (some (.inl (nI (plainN P)))) f a
  | _ => False
def eX1_plainNumbers : En := (tX1_plainNumbers, [(45, false, 3, sX1_argumentAt), (53, true, 1, sX4_kindOf), (67, true, 1, sX4_bit)], fdX1, [], 0)
theorem eokX1_plainNumbers {g : Gm} (hg : GmOK g) : EnvOK g 1 RX1 cX1_plainNumbers (some .int) eX1_plainNumbers := ⟨okX1_plainNumbers, fun _ _ _ _ h => as2_all (P := fun i v => CallOK g 1 RX1 i v.1 v.2.1 v.2.2) (l := eX1_plainNumbers.2.1) ⟨callV_ok (t := 1) hg (mX1_argumentAt hg) kX1_argumentAt mlX1_45 qX1_argumentAt.1 qX1_argumentAt.2 ⟨by decide, by decide⟩ ⟨_, _, rfl⟩ shX1_argumentAt, callN_ok (host := "FallingCalls") hg (mX4_kindOf hg) kX4_kindOf (nxX1_53 hg) qX4_kindOf ⟨by decide, by decide⟩, callN_ok (host := "FallingCalls") hg (mX4_bit hg) kX4_bit (nxX1_67 hg) qX4_bit ⟨by decide, by decide⟩, trivial⟩ h, fdX1_ok, (fun _ _ h => by cases h), rfl⟩
theorem RC.to_i {f : FF} {a : AA} {p : Nat} {P : Pg} (hR : RC (f 1 p) (a 1 p) P) (hW : WF P) {c : Nat} (hc : c < P.2.length) : a 1 p 2 (nI c).toNatClampNeg = nI (to P c) := by
  have := hW.l12
  rw [nI_clamp (by omega)]
  exact (hR.2.2.2 c hc).2.1
theorem RC.fr_i {f : FF} {a : AA} {p : Nat} {P : Pg} (hR : RC (f 1 p) (a 1 p) P) (hW : WF P) {c : Nat} (hc : c < P.2.length) : a 1 p 1 (nI c).toNatClampNeg = nI (fr P c) := by
  have := hW.l12
  rw [nI_clamp (by omega)]
  exact (hR.2.2.2 c hc).1
theorem RC.ar_i {f : FF} {a : AA} {p : Nat} {P : Pg} (hR : RC (f 1 p) (a 1 p) P) (hW : WF P) {i : Nat} (hi : i < P.1.length) : a 1 p 0 (nI i).toNatClampNeg = nI (ar P i) := by
  have := hW.l3
  rw [nI_clamp (by omega)]
  exact hR.2.2.1 i hi
theorem rX1_plainNumbers (av : List AV) (f : FF) (a : AA) (post : PT) (h : sX1_plainNumbers av f a post) (X : XT) (hX : Clo eX1_plainNumbers post X) : X 0 (padL 4 (ent av)) [] f a := by
  unfold sX1_plainNumbers at h
  split at h
  · rename_i p
    obtain ⟨P, hR, hW, h⟩ := h
    have h12 := hW.l12
    have h3 := hW.l3
    refine hX [4] 90 _ _ _ _ _ ?_
    refine forUp (Pr := fun c => ∀ z, X 4 [some (.inr (.inr (1, p, 0))), some (.inl (nI (sumN (fun c => cnt (fun k => decide (ag P c k / 100 = 0)) (ar P (to P c))) c))), some (.inl (nI c)), z] [] f a) (n := P.2.length) (fun c hc next z => ?_) (fun z => ?_) 0 (Nat.zero_le _) none
    · refine hX [4, 14] 90 _ _ _ _ _ ?_
      refine ⟨fun q => ?_, fun q => ?_⟩
      · rw [hR.2.1] at q
        exact absurd q (nI_ge hc (by omega))
      · have hto := hW.to_lt hc
        have hat := hW.ar_to hc
        refine forUp (Pr := fun k => X 14 [some (.inr (.inr (1, p, 0))), some (.inl (nI (sumN (fun c => cnt (fun k => decide (ag P c k / 100 = 0)) (ar P (to P c))) c) + nI (cnt (fun k => decide (ag P c k / 100 = 0)) k))), some (.inl (nI c)), some (.inl (nI k))] [] f a) (n := ar P (to P c)) (fun k hk next => ?_) ?_ 0 (Nat.zero_le _) |> fun hh => by
          rw [show nI (cnt (fun k => decide (ag P c k / 100 = 0)) 0) = 0 from rfl, Int32.add_zero] at hh
          exact hh
        · refine hX [4, 14] 90 _ _ _ _ _ ?_
          refine ⟨inA 12 rfl rfl (by omega) (by decide), inA 3 (hR.to_i hW hc) rfl (by omega) (by decide), fun q => ?_, fun q => ?_⟩
          · rw [hR.to_i hW hc, hR.ar_i hW hto] at q
            exact absurd q (nI_ge hk (by omega))
          · have hag := hW.ag_lt (k := k) hc
            rw [cnt_s, nI_succ, ← Int32.add_assoc] at next
            refine ⟨c, k, rfl, rfl, by omega, ag P c k, by omega, hR.arg hc (by omega), fun d => ?_, fun d => ?_⟩
            · have d : ¬ ag P c k / 100 = 0 := fun z => d (by rw [z]; rfl)
              rw [show decide (ag P c k / 100 = 0) = false by simp [d]] at next
              exact next
            · have d : ag P c k / 100 = 0 := (i_eq (b := 0) rfl rfl (by omega) (by decide)).mp d
              rw [show decide (ag P c k / 100 = 0) = true by simp [d]] at next
              exact next
        · refine hX [4, 14] 90 _ _ _ _ _ ?_
          refine ⟨inA 12 rfl rfl (by omega) (by decide), inA 3 (hR.to_i hW hc) rfl (by omega) (by decide), fun q => ?_, fun q => ?_⟩
          · have n1 := next (some (.inl (nI (ar P (to P c)))))
            rw [sum_s, nI_succ] at n1
            exact n1
          · rw [hR.to_i hW hc, hR.ar_i hW hto] at q
            exact absurd (Int32.le_refl _) q
    · refine hX [4] 90 _ _ _ _ _ ?_
      refine ⟨fun q => h, fun q => ?_⟩
      rw [hR.2.1] at q
      exact absurd (Int32.le_refl _) q
  · exact h.elim
theorem shX1_plainNumbers : ∀ As f a Q, sX1_plainNumbers As f a Q → ∃ i r, As = .inr (.inr (1, i, 0)) :: r := by
  intro As f a Q h
  unfold sX1_plainNumbers at h
  split at h
  · exact ⟨_, _, rfl⟩
  · exact h.elim
theorem mX1_plainNumbers {g : Gm} (hg : GmOK g) : MetC g yX1_plainNumbers cX1_plainNumbers 4 (some .int) 1 sX1_plainNumbers := by
  refine MetC_of hg eX1_plainNumbers (eokX1_plainNumbers hg) (by decide +kernel) (fun av f a post h => ?_) rX1_plainNumbers
  unfold sX1_plainNumbers at h
  split at h
  · exact Nat.le_of_ble_eq_true rfl
  · exact h.elim
/-! codes of graphs; bits of a code -/
def codeR (r00 r01 r10 r11 : Nat) : Nat := r00 + 3 * r01 + 9 * r10 + 27 * r11
def rl (c i k : Nat) : Nat := c / (if i = 0 then (if k = 0 then 1 else 3) else if k = 0 then 9 else 27) % 3
def bit1 (r : Nat) (s : Nat) : Nat := (if 0 < r then 2 ^ s else 0) + (if 1 < r then 2 ^ (s + 4) else 0)
def bitsN (c : Nat) : Nat := bit1 (rl c 0 0) 0 + bit1 (rl c 0 1) 1 + bit1 (rl c 1 0) 2 + bit1 (rl c 1 1) 3
/-- the relations of a call's graph -/
def rel (P : Pg) (c i k : Nat) : Nat := relN i (ag P c k)
def relM (P : Pg) (c i k : Nat) : Nat := if i < ar P (fr P c) ∧ k < ar P (to P c) then rel P c i k else 0
def codeN (P : Pg) (c : Nat) : Nat := codeR (relM P c 0 0) (relM P c 0 1) (relM P c 1 0) (relM P c 1 1)
theorem relM_lt (P : Pg) (c i k : Nat) : relM P c i k < 3 := by
  unfold relM
  split
  · exact relN_lt _ _
  · decide
theorem codeR_lt {a b c d : Nat} (ha : a < 3) (hb : b < 3) (hc : c < 3) (hd : d < 3) : codeR a b c d < 81 := by unfold codeR; omega
theorem codeN_lt (P : Pg) (c : Nat) : codeN P c < 81 := codeR_lt (relM_lt ..) (relM_lt ..) (relM_lt ..) (relM_lt ..)
def bitS (b : Int32) (i k r : Nat) : Int32 := (b ||| (b2i (decide (0 < r)) <<< ((2 * nI i + nI k) &&& 31))) ||| (b2i (decide (1 < r)) <<< ((4 + 2 * nI i + nI k) &&& 31))
def rowB (r : Nat → Nat) (i : Nat) (b : Int32) : Nat → Int32
  | 0 => b
  | k + 1 => bitS (rowB r i b k) i k (r k)
def matB (r : Nat → Nat → Nat) (n : Nat) : Nat → Int32
  | 0 => 0
  | i + 1 => rowB (r i) i (matB r n i) n
theorem mat22 : ∀ a, a < 3 → ∀ b, b < 3 → ∀ c, c < 3 → ∀ d, d < 3 → bitS (bitS (bitS (bitS 0 0 0 a) 0 1 b) 1 0 c) 1 1 d = nI (bitsN (codeR a b c d)) := by decide +kernel
theorem mat21 : ∀ a, a < 3 → ∀ c, c < 3 → bitS (bitS 0 0 0 a) 1 0 c = nI (bitsN (codeR a 0 c 0)) := by decide +kernel
theorem mat12 : ∀ a, a < 3 → ∀ b, b < 3 → bitS (bitS 0 0 0 a) 0 1 b = nI (bitsN (codeR a b 0 0)) := by decide +kernel
theorem mat11 : ∀ a, a < 3 → bitS 0 0 0 a = nI (bitsN (codeR a 0 0 0)) := by decide +kernel
theorem matB_code {P : Pg} (hW : WF P) {c : Nat} (hc : c < P.2.length) : matB (rel P c) (ar P (to P c)) (ar P (fr P c)) = nI (bitsN (codeN P c)) := by
  have l : ∀ i k, rel P c i k < 3 := fun i k => relN_lt _ _
  rcases hW.ar_fr hc with h1 | h1 <;> rcases hW.ar_to hc with h2 | h2
  all_goals simp only [codeN, relM, h1, h2, matB, rowB]
  · exact mat11 _ (l 0 0)
  · exact mat12 _ (l 0 0) _ (l 0 1)
  · exact mat21 _ (l 0 0) _ (l 1 0)
  · exact mat22 _ (l 0 0) _ (l 0 1) _ (l 1 0) _ (l 1 1)
def sX1_bitsOf : SP := fun As f a Q => match As with
  | [.inr (.inr (1, p, 0)), .inl x] => ∃ P c, RC (f 1 p) (a 1 p) P ∧ WF P ∧ x = nI c ∧ c < P.2.length ∧ Q (some (.inl (nI (bitsN (codeN P c))))) f a
  | _ => False
def eX1_bitsOf : En := (tX1_bitsOf, [(45, false, 3, sX1_argumentAt), (71, true, 2, sX1_relation), (67, true, 1, sX4_bit)], fdX1, [], 0)
theorem eokX1_bitsOf {g : Gm} (hg : GmOK g) : EnvOK g 2 RX1 cX1_bitsOf (some .int) eX1_bitsOf := ⟨okX1_bitsOf, fun _ _ _ _ h => as2_all (P := fun i v => CallOK g 2 RX1 i v.1 v.2.1 v.2.2) (l := eX1_bitsOf.2.1) ⟨callV_ok (t := 1) hg (mX1_argumentAt hg) kX1_argumentAt mlX1_45 qX1_argumentAt.1 qX1_argumentAt.2 ⟨by decide, by decide⟩ ⟨_, _, rfl⟩ shX1_argumentAt, callS_ok hg (mX1_relation hg) kX1_relation mlX1_71 qX1_relation ⟨by decide, by decide⟩, callN_ok (host := "FallingCalls") hg (mX4_bit hg) kX4_bit (nxX1_67 hg) qX4_bit ⟨by decide, by decide⟩, trivial⟩ h, fdX1_ok, (fun _ _ h => by cases h), rfl⟩
theorem rX1_bitsOf (av : List AV) (f : FF) (a : AA) (post : PT) (h : sX1_bitsOf av f a post) (X : XT) (hX : Clo eX1_bitsOf post X) : X 0 (padL 6 (ent av)) [] f a := by
  unfold sX1_bitsOf at h
  split at h
  · rename_i p x
    obtain ⟨P, c, hR, hW, rfl, hc, h⟩ := h
    have h12 := hW.l12
    have h3 := hW.l3
    have hto := hW.to_lt hc
    have hat := hW.ar_to hc
    have hfr := hW.fr_lt hc
    have haf := hW.ar_fr hc
    rw [← matB_code hW hc] at h
    refine hX [4] 90 _ _ _ _ _ ?_
    refine forUp (Pr := fun i => ∀ z w, X 4 [some (.inr (.inr (1, p, 0))), some (.inl (nI c)), some (.inl (matB (rel P c) (ar P (to P c)) i)), some (.inl (nI i)), z, w] [] f a) (n := ar P (fr P c)) (fun i hi next z w => ?_) (fun z w => ?_) 0 (Nat.zero_le _) none none
    · refine hX [4, 22] 90 _ _ _ _ _ ?_
      refine ⟨inA 12 rfl rfl (by omega) (by decide), inA 3 (hR.fr_i hW hc) rfl (by omega) (by decide), fun q => ?_, fun q => ?_⟩
      · rw [hR.fr_i hW hc, hR.ar_i hW hfr] at q
        exact absurd q (nI_ge hi (by omega))
      · refine forUp (Pr := fun k => ∀ w, X 22 [some (.inr (.inr (1, p, 0))), some (.inl (nI c)), some (.inl (rowB (rel P c i) i (matB (rel P c) (ar P (to P c)) i) k)), some (.inl (nI i)), some (.inl (nI k)), w] [] f a) (n := ar P (to P c)) (fun k hk next w => ?_) (fun w => ?_) 0 (Nat.zero_le _) w
        · refine hX [4, 22] 90 _ _ _ _ _ ?_
          refine ⟨inA 12 rfl rfl (by omega) (by decide), inA 3 (hR.to_i hW hc) rfl (by omega) (by decide), fun q => ?_, fun q => ?_⟩
          · rw [hR.to_i hW hc, hR.ar_i hW hto] at q
            exact absurd q (nI_ge hk (by omega))
          · have hag := hW.ag_lt (k := k) hc
            have hrl : rel P c i k < 3 := relN_lt _ _
            have hrl2 : relN i (ag P c k) = rel P c i k := rfl
            refine ⟨c, k, rfl, rfl, by omega, i, ag P c k, rfl, by omega, hR.arg hc (by omega), hag, ?_⟩
            have n1 := next (some (.inl (nI (rel P c i k))))
            rw [nI_succ] at n1
            have e1 : rowB (rel P c i) i (matB (rel P c) (ar P (to P c)) i) (k + 1) = bitS (rowB (rel P c i) i (matB (rel P c) (ar P (to P c)) i) k) i k (rel P c i k) := rfl
            rw [e1] at n1
            unfold bitS at n1
            refine ⟨fun d => ?_, fun d => ?_⟩
            · have d : ¬ 0 < rel P c i k := Nat.not_lt.mpr ((i_le (b := 0) rfl rfl (by omega) (by decide)).mp d)
              rw [show decide (0 < rel P c i k) = false by simp [d], show decide (1 < rel P c i k) = false by simp; omega] at n1
              refine ⟨fun d2 => n1, fun d2 => ?_⟩
              exact absurd ((i_le (b := 1) rfl rfl (by omega) (by decide)).mpr (by omega)) d2
            · have d : 0 < rel P c i k := Nat.not_le.mp (fun z => d ((i_le (b := 0) rfl rfl (by omega) (by decide)).mpr z))
              rw [show decide (0 < rel P c i k) = true by simp [d]] at n1
              refine ⟨fun d2 => ?_, fun d2 => ?_⟩
              · have d2 : ¬ 1 < rel P c i k := Nat.not_lt.mpr ((i_le (b := 1) rfl rfl (by omega) (by decide)).mp d2)
                rw [show decide (1 < rel P c i k) = false by simp [d2]] at n1
                exact n1
              · have d2 : 1 < rel P c i k := Nat.not_le.mp (fun z => d2 ((i_le (b := 1) rfl rfl (by omega) (by decide)).mpr z))
                rw [show decide (1 < rel P c i k) = true by simp [d2]] at n1
                exact n1
        · refine hX [4, 22] 90 _ _ _ _ _ ?_
          refine ⟨inA 12 rfl rfl (by omega) (by decide), inA 3 (hR.to_i hW hc) rfl (by omega) (by decide), fun q => ?_, fun q => ?_⟩
          · have n1 := next (some (.inl (nI (ar P (to P c))))) w
            rw [nI_succ] at n1
            exact n1
          · rw [hR.to_i hW hc, hR.ar_i hW hto] at q
            exact absurd (Int32.le_refl _) q
    · refine hX [4] 90 _ _ _ _ _ ?_
      refine ⟨inA 12 rfl rfl (by omega) (by decide), inA 3 (hR.fr_i hW hc) rfl (by omega) (by decide), fun q => h, fun q => ?_⟩
      rw [hR.fr_i hW hc, hR.ar_i hW hfr] at q
      exact absurd (Int32.le_refl _) q
  · exact h.elim
theorem shX1_bitsOf : ∀ As f a Q, sX1_bitsOf As f a Q → ∃ i r, As = .inr (.inr (1, i, 0)) :: r := by
  intro As f a Q h
  unfold sX1_bitsOf at h
  split at h
  · exact ⟨_, _, rfl⟩
  · exact h.elim
theorem mX1_bitsOf {g : Gm} (hg : GmOK g) : MetC g yX1_bitsOf cX1_bitsOf 6 (some .int) 2 sX1_bitsOf := by
  refine MetC_of hg eX1_bitsOf (eokX1_bitsOf hg) (by decide +kernel) (fun av f a post h => ?_) rX1_bitsOf
  unfold sX1_bitsOf at h
  split at h
  · exact Nat.le_of_ble_eq_true rfl
  · exact h.elim

/-! runs: whether a call is made with values a, b; what its argument is then -/
def valN (x va vb : Nat) : Nat := if x / 10 % 10 = 0 then va else vb
def okM (x va vb : Nat) : Bool := !(decide (x / 100 = 1) && decide (valN x va vb < x % 10)) && !(decide (x / 100 = 2) && (decide (1 < x % 10) && decide (valN x va vb = 0)))
def allK (p : Nat → Bool) : Nat → Bool
  | 0 => true
  | k + 1 => allK p k && p k
def madeB (P : Pg) (c va vb : Nat) : Bool := allK (fun k => okM (ag P c k) va vb) (ar P (to P c))
def worthN (x va vb : Nat) : Nat := if x / 100 = 1 then valN x va vb - x % 10 else if x / 100 = 2 then valN x va vb / (x % 10) else if x / 100 = 3 then min (valN x va vb + x % 10) 999 else if x / 100 = 4 then min va vb else x % 10
theorem allK_false {p : Nat → Bool} : ∀ {n k : Nat}, k < n → p k = false → allK p n = false
  | n + 1, k, h, hp => by
    rcases (show k < n ∨ k = n by omega) with q | rfl
    · simp [allK, allK_false q hp]
    · simp [allK, hp]
theorem allK_true {p : Nat → Bool} : ∀ {n : Nat}, (∀ k, k < n → p k = true) → allK p n = true
  | 0, _ => rfl
  | n + 1, h => by
    have h1 : allK p n = true := allK_true (fun k hk => h k (by omega))
    simp [allK, h1, h n (by omega)]
def sX1_isMade : SP := fun As f a Q => match As with
  | [.inr (.inr (1, p, 0)), .inl x, .inl y, .inl z] => ∃ P c va vb, RC (f 1 p) (a 1 p) P ∧ WF P ∧ x = nI c ∧ c < P.2.length ∧ y = nI va ∧ va < 1000 ∧ z = nI vb ∧ vb < 1000 ∧ Q (some (.inl (b2i (madeB P c va vb)))) f a
  | _ => False
def eX1_isMade : En := (tX1_isMade, [(45, false, 3, sX1_argumentAt), (57, true, 1, sX4_valueOf), (60, true, 1, sX4_numberOf), (53, true, 1, sX4_kindOf)], fdX1, [], 1)
theorem eokX1_isMade {g : Gm} (hg : GmOK g) : EnvOK g 1 RX1 cX1_isMade (some .boolean) eX1_isMade := ⟨okX1_isMade, fun _ _ _ _ h => as2_all (P := fun i v => CallOK g 1 RX1 i v.1 v.2.1 v.2.2) (l := eX1_isMade.2.1) ⟨callV_ok (t := 1) hg (mX1_argumentAt hg) kX1_argumentAt mlX1_45 qX1_argumentAt.1 qX1_argumentAt.2 ⟨by decide, by decide⟩ ⟨_, _, rfl⟩ shX1_argumentAt, callN_ok (host := "FallingCalls") hg (mX4_valueOf hg) kX4_valueOf (nxX1_57 hg) qX4_valueOf ⟨by decide, by decide⟩, callN_ok (host := "FallingCalls") hg (mX4_numberOf hg) kX4_numberOf (nxX1_60 hg) qX4_numberOf ⟨by decide, by decide⟩, callN_ok (host := "FallingCalls") hg (mX4_kindOf hg) kX4_kindOf (nxX1_53 hg) qX4_kindOf ⟨by decide, by decide⟩, trivial⟩ h, fdX1_ok, (fun _ _ h => by cases h), rfl⟩
theorem rX1_isMade (av : List AV) (f : FF) (a : AA) (post : PT) (h : sX1_isMade av f a post) (X : XT) (hX : Clo eX1_isMade post X) : X 0 (padL 8 (ent av)) [] f a := by
  unfold sX1_isMade at h
  split at h
  · rename_i p x y z
    obtain ⟨P, c, va, vb, hR, hW, rfl, hc, rfl, hva, rfl, hvb, h⟩ := h
    have h12 := hW.l12
    have h3 := hW.l3
    have hto := hW.to_lt hc
    have hat := hW.ar_to hc
    refine hX [3] 90 _ _ _ _ _ ?_
    refine forUp (Pr := fun k => (∀ j, j < k → okM (ag P c j) va vb = true) → ∀ x5 x6 x7, X 3 [some (.inr (.inr (1, p, 0))), some (.inl (nI c)), some (.inl (nI va)), some (.inl (nI vb)), some (.inl (nI k)), x5, x6, x7] [] f a) (n := ar P (to P c)) (fun k hk next hall x5 x6 x7 => ?_) (fun hall x5 x6 x7 => ?_) 0 (Nat.zero_le _) (fun j hj => absurd hj (Nat.not_lt_zero j)) none none none
    · refine hX [3, 41] 90 _ _ _ _ _ ?_
      refine ⟨inA 12 rfl rfl (by omega) (by decide), inA 3 (hR.to_i hW hc) rfl (by omega) (by decide), fun q => ?_, fun q => ?_⟩
      · rw [hR.to_i hW hc, hR.ar_i hW hto] at q
        exact absurd q (nI_ge hk (by omega))
      · have hag := hW.ag_lt (k := k) hc
        have e0 := hR.arg hc (show k < 2 by omega)
        have b1 : ag P c k / 100 < 1000 := by omega
        have b2 : ag P c k / 10 % 10 < 1000 := by omega
        have b3 : ag P c k % 10 < 1000 := by omega
        refine ⟨c, k, rfl, rfl, by omega, ag P c k, by omega, e0, ?_⟩
        have main : ∀ vI, vI = valN (ag P c k) va vb → X 41 [some (.inr (.inr (1, p, 0))), some (.inl (nI c)), some (.inl (nI va)), some (.inl (nI vb)), some (.inl (nI k)), some (.inl (a 1 p 3 (2 * c + k))), x6, x7] [.inl (nI vI)] f a := by
          intro v hv
          have hv9 : v < 1000 := by rw [hv]; unfold valN; split <;> omega
          refine hX [3] 90 _ _ _ _ _ ?_
          refine ⟨ag P c k, by omega, e0, ag P c k, by omega, e0, ?_⟩
          have go : okM (ag P c k) va vb = true → ∀ x5 x6 x7, X 3 [some (.inr (.inr (1, p, 0))), some (.inl (nI c)), some (.inl (nI va)), some (.inl (nI vb)), some (.inl (nI k + 1)), x5, x6, x7] [] f a := by
            intro hk2
            rw [nI_succ] at next
            exact next (fun j hj => by
              rcases (show j < k ∨ j = k by omega) with z | rfl
              · exact hall j z
              · exact hk2)
          have stop : okM (ag P c k) va vb = false → madeB P c va vb = false := fun hk2 => allK_false hk hk2
          refine ⟨fun d => ?_, fun d => ?_⟩
          · have d : ¬ ag P c k / 100 = 1 := fun z => d (by rw [z]; rfl)
            refine ⟨ag P c k, by omega, e0, fun d2 => ?_, fun d2 => ?_⟩
            · have d2 : ¬ ag P c k / 100 = 2 := fun z => d2 (by rw [z]; rfl)
              exact go (by simp [okM, d, d2]) _ _ _
            · have d2 : ag P c k / 100 = 2 := (i_eq (b := 2) rfl rfl (i31 b1) (by decide)).mp d2
              refine ⟨fun d3 => ?_, fun d3 => ?_⟩
              · have d3 : ¬ 1 < ag P c k % 10 := Nat.not_lt.mpr ((i_le (b := 1) rfl rfl (i31 b3) (by decide)).mp d3)
                exact go (by simp [okM, d, d3]) _ _ _
              · have d3 : 1 < ag P c k % 10 := Nat.not_le.mp (fun z => d3 ((i_le (b := 1) rfl rfl (i31 b3) (by decide)).mpr z))
                refine ⟨fun d4 => ?_, fun d4 => ?_⟩
                · have d4 : ¬ v = 0 := fun z => d4 (by rw [z]; rfl)
                  rw [hv] at d4
                  exact go (by simp [okM, d, d4]) _ _ _
                · have d4 : v = 0 := (i_eq (b := 0) rfl rfl (i31 hv9) (by decide)).mp d4
                  rw [hv] at d4
                  exact pF h (stop (by simp [okM, d2, d3, d4]))
          · have d : ag P c k / 100 = 1 := (i_eq (b := 1) rfl rfl (i31 b1) (by decide)).mp d
            refine ⟨fun d2 => ?_, fun d2 => ?_⟩
            · have d2 : ag P c k % 10 ≤ v := (nI_leI (i31 b3) (i31 hv9)).mp d2
              rw [hv] at d2
              refine ⟨ag P c k, by omega, e0, fun d3 => ?_, fun d3 => ?_⟩
              · exact go (by simp [okM, d]; omega) _ _ _
              · have d3 : ag P c k / 100 = 2 := (i_eq (b := 2) rfl rfl (i31 b1) (by decide)).mp d3
                omega
            · have d2 : v < ag P c k % 10 := Nat.not_le.mp (fun z => d2 ((nI_leI (i31 b3) (i31 hv9)).mpr z))
              rw [hv] at d2
              exact pF h (stop (by simp [okM, d]; omega))
        refine ⟨fun d => ?_, fun d => ?_⟩
        · have d : ¬ ag P c k / 10 % 10 = 0 := fun z => d (by rw [z]; rfl)
          exact main vb (by simp [valN, d])
        · have d : ag P c k / 10 % 10 = 0 := (i_eq (b := 0) rfl rfl (i31 b2) (by decide)).mp d
          exact main va (by simp [valN, d])
    · refine hX [3] 90 _ _ _ _ _ ?_
      refine ⟨inA 12 rfl rfl (by omega) (by decide), inA 3 (hR.to_i hW hc) rfl (by omega) (by decide), fun q => ?_, fun q => ?_⟩
      · exact pT h (allK_true hall)
      · rw [hR.to_i hW hc, hR.ar_i hW hto] at q
        exact absurd (Int32.le_refl _) q
  · exact h.elim
theorem shX1_isMade : ∀ As f a Q, sX1_isMade As f a Q → ∃ i r, As = .inr (.inr (1, i, 0)) :: r := by
  intro As f a Q h
  unfold sX1_isMade at h
  split at h
  · exact ⟨_, _, rfl⟩
  · exact h.elim
theorem mX1_isMade {g : Gm} (hg : GmOK g) : MetC g yX1_isMade cX1_isMade 8 (some .boolean) 1 sX1_isMade := by
  refine MetC_of hg eX1_isMade (eokX1_isMade hg) (by decide +kernel) (fun av f a post h => ?_) rX1_isMade
  unfold sX1_isMade at h
  split at h
  · exact Nat.le_of_ble_eq_true rfl
  · exact h.elim
