/-! Program: what is counted and read -/
def cnt (p : Nat → Bool) : Nat → Nat
  | 0 => 0
  | n + 1 => cnt p n + (if p n then 1 else 0)
def sumN (g : Nat → Nat) : Nat → Nat
  | 0 => 0
  | n + 1 => sumN g n + g n
theorem cnt_s (p : Nat → Bool) (n : Nat) : nI (cnt p (n + 1)) = nI (cnt p n) + b2i (p n) := by
  cases h : p n
  · simp only [cnt, h, b2i]
    exact (show nI (cnt p n + 0) = nI (cnt p n) + nI 0 from (nI_add _ _).symm)
  · simp only [cnt, h, b2i]
    exact nI_succ _
theorem sum_s (g : Nat → Nat) (n : Nat) : nI (sumN g (n + 1)) = nI (sumN g n) + nI (g n) := (nI_add _ _).symm
theorem i31 {n : Nat} (h : n < 1000) : n < 2 ^ 31 := Nat.lt_of_lt_of_le h (by decide)
theorem WF.l3 {P : Pg} (h : WF P) : P.1.length ≤ 3 := h.1
theorem WF.l12 {P : Pg} (h : WF P) : P.2.length ≤ 12 := h.2.1
theorem WF.ar_fr {P : Pg} (h : WF P) {c : Nat} (hc : c < P.2.length) : ar P (fr P c) = 1 ∨ ar P (fr P c) = 2 := h.2.2.1 _ (h.fr_lt hc)
theorem WF.ar_to {P : Pg} (h : WF P) {c : Nat} (hc : c < P.2.length) : ar P (to P c) = 1 ∨ ar P (to P c) = 2 := h.2.2.1 _ (h.to_lt hc)
theorem upA_cpy {a : AA} {t i k : Nat} (g : Nat → Int32) {n j : Nat} (h : j < n) : va_cpy g (a t i k) 0 0 n j = g j := by
  unfold va_cpy
  rw [if_pos (by omega)]
  congr 1
  omega
def sX1_copy : SP := fun As f a Q => match As with
  | [.inr (.inr (1, p, 0)), .inr (.inr (1, p', 0))] => ¬ p' = p ∧ ∀ f' a', Fr f a f' a' 1 p → (∀ P, WF P → RC (f 1 p') (a 1 p') P → RC (f' 1 p) (a' 1 p) P) → (AB (a 1 p') → AB (a' 1 p)) → Q none f' a'
  | _ => False
def eX1_copy : En := (tX1_copy, [(31, true, 5, sJS_copy)], fdX1, [], 2)
theorem eokX1_copy {g : Gm} (hg : GmOK g) : EnvOK g 1 RX1 cX1_copy none eX1_copy := ⟨okX1_copy, fun _ _ _ _ h => as2_all (P := fun i v => CallOK g 1 RX1 i v.1 v.2.1 v.2.2) (l := eX1_copy.2.1) ⟨callJS_copy_X1_31 hg, trivial⟩ h, fdX1_ok, (fun _ _ h => by cases h), rfl⟩
theorem rX1_copy (av : List AV) (f : FF) (a : AA) (post : PT) (h : sX1_copy av f a post) (X : XT) (hX : Clo eX1_copy post X) : X 0 (padL 2 (ent av)) [] f a := by
  unfold sX1_copy at h
  split at h
  · rename_i p p'
    obtain ⟨hne, h⟩ := h
    refine hX [] 90 _ _ _ _ _ ?_
    refine ⟨rfl, rfl, rfl, rfl, 3, rfl, by decide, by decide, by decide, ?_⟩
    refine ⟨rfl, rfl, rfl, rfl, 12, rfl, by decide, by decide, by decide, ?_⟩
    refine ⟨rfl, rfl, rfl, rfl, 12, rfl, by decide, by decide, by decide, ?_⟩
    refine ⟨rfl, rfl, rfl, rfl, 24, rfl, by decide, by decide, by decide, ?_⟩
    refine h _ _ ?_ ?_ (fun hB i hi => ?_)
    · exact (((((((Fr.rf f a 1 p).uf 4 _).uf 5 _).uA 0 _).uA 1 _).uA 2 _).uA 3 _)
    · intro P hW hR
      have hn : ¬ (1 = 1 ∧ p' = p) := fun q => hne q.2
      have h3 := hW.l3
      have h12 := hW.l12
      refine ⟨?_, ?_, fun i hi => ?_, fun c hc => ?_⟩
      · rw [upf_s, if_neg (by decide), upf_s, if_pos rfl]; exact hR.1
      · rw [upf_s, if_pos rfl, upf_o _ _ hn]; exact hR.2.1
      · rw [upA_s, if_neg (by decide), upA_s, if_neg (by decide), upA_s, if_neg (by decide), upA_s, if_pos rfl, upA_cpy _ (by omega)]
        exact hR.2.2.1 i hi
      · have h1 := hR.2.2.2 c hc
        have e0 : ∀ (x : Nat → Int32) k, upA a 1 p 0 x 1 p' k = a 1 p' k := fun x k => upA_ne (fun q => hne q.2.1)
        refine ⟨?_, ?_, ?_, ?_⟩
        · rw [upA_s, if_neg (by decide), upA_s, if_neg (by decide), upA_s, if_pos rfl, upA_cpy _ (by omega), upA_ne (fun q => hne q.2.1)]
          exact h1.1
        · rw [upA_s, if_neg (by decide), upA_s, if_pos rfl, upA_cpy _ (by omega), upA_ne (fun q => hne q.2.1), upA_ne (fun q => hne q.2.1)]
          exact h1.2.1
        · rw [upA_s, if_pos rfl, upA_cpy _ (by omega), upA_ne (fun q => hne q.2.1), upA_ne (fun q => hne q.2.1), upA_ne (fun q => hne q.2.1)]
          exact h1.2.2.1
        · rw [upA_s, if_pos rfl, upA_cpy _ (by omega), upA_ne (fun q => hne q.2.1), upA_ne (fun q => hne q.2.1), upA_ne (fun q => hne q.2.1)]
          exact h1.2.2.2
    · obtain ⟨m, hm, e⟩ := hB i hi
      refine ⟨m, hm, ?_⟩
      rw [upA_s, if_neg (by decide), upA_s, if_neg (by decide), upA_s, if_neg (by decide), upA_s, if_pos rfl, upA_cpy _ hi]
      exact e
  · exact h.elim
theorem shX1_copy : ∀ As f a Q, sX1_copy As f a Q → ∃ i r, As = .inr (.inr (1, i, 0)) :: r := by
  intro As f a Q h
  unfold sX1_copy at h
  split at h
  · exact ⟨_, _, rfl⟩
  · exact h.elim
theorem mX1_copy {g : Gm} (hg : GmOK g) : MetC g yX1_copy cX1_copy 2 none 1 sX1_copy := by
  refine MetC_of hg eX1_copy (eokX1_copy hg) (by decide +kernel) (fun av f a post h => ?_) rX1_copy
  unfold sX1_copy at h
  split at h
  · exact Nat.le_of_ble_eq_true rfl
  · exact h.elim
def sX1_callsFrom : SP := fun As f a Q => match As with
  | [.inr (.inr (1, p, 0)), .inl x] => ∃ P n, RC (f 1 p) (a 1 p) P ∧ WF P ∧ x = nI n ∧ n < 3 ∧ Q (some (.inl (nI (cnt (fun c => decide (fr P c = n)) P.2.length)))) f a
  | _ => False
def eX1_callsFrom : En := (tX1_callsFrom, [(67, true, 1, sX4_bit)], fdX1, [], 0)
theorem eokX1_callsFrom {g : Gm} (hg : GmOK g) : EnvOK g 1 RX1 cX1_callsFrom (some .int) eX1_callsFrom := ⟨okX1_callsFrom, fun _ _ _ _ h => as2_all (P := fun i v => CallOK g 1 RX1 i v.1 v.2.1 v.2.2) (l := eX1_callsFrom.2.1) ⟨callN_ok (host := "FallingCalls") hg (mX4_bit hg) kX4_bit (nxX1_67 hg) qX4_bit ⟨by decide, by decide⟩, trivial⟩ h, fdX1_ok, (fun _ _ h => by cases h), rfl⟩
theorem rX1_callsFrom (av : List AV) (f : FF) (a : AA) (post : PT) (h : sX1_callsFrom av f a post) (X : XT) (hX : Clo eX1_callsFrom post X) : X 0 (padL 4 (ent av)) [] f a := by
  unfold sX1_callsFrom at h
  split at h
  · rename_i p x
    obtain ⟨P, n, hR, hW, rfl, hn, h⟩ := h
    have h12 := hW.l12
    have h3 := hW.l3
    refine hX [4] 90 _ _ _ _ _ ?_
    refine forUp (Pr := fun c => X 4 [some (.inr (.inr (1, p, 0))), some (.inl (nI n)), some (.inl (nI (cnt (fun c => decide (fr P c = n)) c))), some (.inl (nI c))] [] f a) (n := P.2.length) (fun c hc next => ?_) ?_ 0 (Nat.zero_le _)
    · refine hX [4] 90 _ _ _ _ _ ?_
      refine ⟨fun q => ?_, fun q => ?_⟩
      · rw [hR.2.1] at q
        exact absurd q (nI_ge hc (by omega))
      · refine ⟨inA 12 rfl rfl (by omega) (by decide), ?_⟩
        have e : a 1 p 1 (nI c).toNatClampNeg = nI (fr P c) := by rw [nI_clamp (by omega)]; exact (hR.2.2.2 c hc).1
        have hfr := hW.fr_lt hc
        rw [cnt_s, nI_succ] at next
        refine ⟨fun q => ?_, fun q => ?_⟩
        · rw [e] at q
          have q1 : decide (fr P c = n) = false := by simp; exact fun z => q (by rw [z])
          rw [q1] at next
          exact next
        · rw [e] at q
          have q1 : decide (fr P c = n) = true := by simp; exact (nI_eq (by omega) (by omega)).mp q
          rw [q1] at next
          exact next
    · refine hX [4] 90 _ _ _ _ _ ?_
      refine ⟨fun q => h, fun q => ?_⟩
      rw [hR.2.1] at q
      exact absurd (Int32.le_refl _) q
  · exact h.elim
theorem shX1_callsFrom : ∀ As f a Q, sX1_callsFrom As f a Q → ∃ i r, As = .inr (.inr (1, i, 0)) :: r := by
  intro As f a Q h
  unfold sX1_callsFrom at h
  split at h
  · exact ⟨_, _, rfl⟩
  · exact h.elim
theorem mX1_callsFrom {g : Gm} (hg : GmOK g) : MetC g yX1_callsFrom cX1_callsFrom 4 (some .int) 1 sX1_callsFrom := by
  refine MetC_of hg eX1_callsFrom (eokX1_callsFrom hg) (by decide +kernel) (fun av f a post h => ?_) rX1_callsFrom
  unfold sX1_callsFrom at h
  split at h
  · exact Nat.le_of_ble_eq_true rfl
  · exact h.elim
def sX1_arities : SP := fun As f a Q => match As with
  | [.inr (.inr (1, p, 0))] => ∃ P, RC (f 1 p) (a 1 p) P ∧ WF P ∧ Q (some (.inl (nI (sumN (ar P) P.1.length)))) f a
  | _ => False
def eX1_arities : En := (tX1_arities, [], fdX1, [], 0)
theorem eokX1_arities {g : Gm} (hg : GmOK g) : EnvOK g 0 RX1 cX1_arities (some .int) eX1_arities := ⟨okX1_arities, (fun _ _ _ _ h => by cases h), fdX1_ok, (fun _ _ h => by cases h), rfl⟩
theorem rX1_arities (av : List AV) (f : FF) (a : AA) (post : PT) (h : sX1_arities av f a post) (X : XT) (hX : Clo eX1_arities post X) : X 0 (padL 3 (ent av)) [] f a := by
  unfold sX1_arities at h
  split at h
  · rename_i p
    obtain ⟨P, hR, hW, h⟩ := h
    have h3 := hW.l3
    refine hX [4] 90 _ _ _ _ _ ?_
    refine forUp (Pr := fun c => X 4 [some (.inr (.inr (1, p, 0))), some (.inl (nI (sumN (ar P) c))), some (.inl (nI c))] [] f a) (n := P.1.length) (fun c hc next => ?_) ?_ 0 (Nat.zero_le _)
    · refine hX [4] 90 _ _ _ _ _ ?_
      refine ⟨fun q => ?_, fun q => ?_⟩
      · rw [hR.1] at q
        exact absurd q (nI_ge hc (by omega))
      · refine ⟨inA 3 rfl rfl (by omega) (by decide), ?_⟩
        have e : a 1 p 0 (nI c).toNatClampNeg = nI (ar P c) := by rw [nI_clamp (by omega)]; exact hR.2.2.1 c hc
        rw [sum_s, nI_succ, ← e] at next
        exact next
    · refine hX [4] 90 _ _ _ _ _ ?_
      refine ⟨fun q => h, fun q => ?_⟩
      rw [hR.1] at q
      exact absurd (Int32.le_refl _) q
  · exact h.elim
theorem shX1_arities : ∀ As f a Q, sX1_arities As f a Q → ∃ i r, As = .inr (.inr (1, i, 0)) :: r := by
  intro As f a Q h
  unfold sX1_arities at h
  split at h
  · exact ⟨_, _, rfl⟩
  · exact h.elim
theorem mX1_arities {g : Gm} (hg : GmOK g) : MetC g yX1_arities cX1_arities 3 (some .int) 0 sX1_arities := by
  refine MetC_of hg eX1_arities (eokX1_arities hg) (by decide +kernel) (fun av f a post h => ?_) rX1_arities
  unfold sX1_arities at h
  split at h
  · exact Nat.le_of_ble_eq_true rfl
  · exact h.elim
/-- the relation of value i to an argument told x -/
def relN (i x : Nat) : Nat := if x / 100 = 4 then 1 else if x / 100 = 0 ∨ ¬ x / 10 % 10 = i then 0 else if x / 100 = 1 then (if 0 < x % 10 then 2 else 1) else if x / 100 = 2 then (if 1 < x % 10 then 2 else 1) else if x % 10 = 0 then 1 else 0
theorem relN_lt (i x : Nat) : relN i x < 3 := by
  unfold relN
  repeat' split
  all_goals decide
def sX1_relation : SP := fun As f a Q => match As with
  | [.inl x, .inl y] => ∃ i n, x = nI i ∧ i < 2 ∧ y = nI n ∧ n < 500 ∧ Q (some (.inl (nI (relN i n)))) f a
  | _ => False
def eX1_relation : En := (tX1_relation, [(53, true, 1, sX4_kindOf), (60, true, 1, sX4_numberOf), (57, true, 1, sX4_valueOf)], fdX1, [], 0)
theorem eokX1_relation {g : Gm} (hg : GmOK g) : EnvOK g 1 RX1 cX1_relation (some .int) eX1_relation := ⟨okX1_relation, fun _ _ _ _ h => as2_all (P := fun i v => CallOK g 1 RX1 i v.1 v.2.1 v.2.2) (l := eX1_relation.2.1) ⟨callN_ok (host := "FallingCalls") hg (mX4_kindOf hg) kX4_kindOf (nxX1_53 hg) qX4_kindOf ⟨by decide, by decide⟩, callN_ok (host := "FallingCalls") hg (mX4_numberOf hg) kX4_numberOf (nxX1_60 hg) qX4_numberOf ⟨by decide, by decide⟩, callN_ok (host := "FallingCalls") hg (mX4_valueOf hg) kX4_valueOf (nxX1_57 hg) qX4_valueOf ⟨by decide, by decide⟩, trivial⟩ h, fdX1_ok, (fun _ _ h => by cases h), rfl⟩
theorem rX1_relation (av : List AV) (f : FF) (a : AA) (post : PT) (h : sX1_relation av f a post) (X : XT) (hX : Clo eX1_relation post X) : X 0 (padL 4 (ent av)) [] f a := by
  unfold sX1_relation at h
  split at h
  · obtain ⟨i, n, rfl, hi, rfl, hn, h⟩ := h
    have b1 : n / 100 < 1000 := by omega
    have b2 : n / 10 % 10 < 1000 := by omega
    have b3 : n % 10 < 1000 := by omega
    refine hX [] 90 _ _ _ _ _ ?_
    refine ⟨n, by omega, rfl, n, by omega, rfl, fun q => ?_, fun q => ?_⟩
    · have q : ¬ n / 100 = 4 := fun z => q (by rw [z]; rfl)
      refine ⟨fun c => ?_, fun c => ?_⟩
      · have c : n / 100 = 0 := (i_eq (b := 0) rfl rfl (i31 b1) (by decide)).mp c
        exact pI h (by simp [relN, c]; rfl)
      · have c : ¬ n / 100 = 0 := fun z => c (by rw [z]; rfl)
        refine ⟨n, by omega, rfl, fun d => ?_, fun d => ?_⟩
        · have d : n / 10 % 10 = i := (nI_eq (i31 b2) (by omega)).mp d
          refine ⟨fun e => ?_, fun e => ?_⟩
          · have e : ¬ n / 100 = 1 := fun z => e (by rw [z]; rfl)
            refine ⟨fun k => ?_, fun k => ?_⟩
            · have k : ¬ n / 100 = 2 := fun z => k (by rw [z]; rfl)
              refine ⟨fun l => ?_, fun l => ?_⟩
              · have l : ¬ n % 10 = 0 := fun z => l (by rw [z]; rfl)
                exact pI h (by simp [relN, q, c, d, e, k, l]; rfl)
              · have l : n % 10 = 0 := (i_eq (b := 0) rfl rfl (i31 b3) (by decide)).mp l
                exact pI h (by simp [relN, q, c, d, e, k, l]; rfl)
            · have k : n / 100 = 2 := (i_eq (b := 2) rfl rfl (i31 b1) (by decide)).mp k
              refine ⟨fun l => ?_, fun l => ?_⟩
              · have l : ¬ 1 < n % 10 := Nat.not_lt.mpr ((i_le (b := 1) rfl rfl (i31 b3) (by decide)).mp l)
                exact pI h (by simp [relN, d, k, l]; rfl)
              · have l : 1 < n % 10 := Nat.not_le.mp (fun z => l ((i_le (b := 1) rfl rfl (i31 b3) (by decide)).mpr z))
                exact pI h (by simp [relN, d, k, l]; rfl)
          · have e : n / 100 = 1 := (i_eq (b := 1) rfl rfl (i31 b1) (by decide)).mp e
            refine ⟨fun l => ?_, fun l => ?_⟩
            · have l : n % 10 = 0 := Nat.le_zero.mp ((i_le (b := 0) rfl rfl (i31 b3) (by decide)).mp l)
              exact pI h (by simp [relN, d, e, l]; rfl)
            · have l : 0 < n % 10 := Nat.not_le.mp (fun z => l ((i_le (b := 0) rfl rfl (i31 b3) (by decide)).mpr z))
              exact pI h (by simp [relN, d, e, l]; rfl)
        · have d : ¬ n / 10 % 10 = i := fun z => d (by rw [z])
          exact pI h (by simp [relN, q, d]; rfl)
    · have q : n / 100 = 4 := (i_eq (b := 4) rfl rfl (i31 b1) (by decide)).mp q
      exact pI h (by simp [relN, q]; rfl)
  · exact h.elim
theorem mX1_relation {g : Gm} (hg : GmOK g) : MetC g yX1_relation cX1_relation 4 (some .int) 1 sX1_relation := by
  refine MetC_of hg eX1_relation (eokX1_relation hg) (by decide +kernel) (fun av f a post h => ?_) rX1_relation
  unfold sX1_relation at h
  split at h
  · exact Nat.le_of_ble_eq_true rfl
  · exact h.elim
