/-! the reference's tokens -/
def TM (f : FF) (a : AA) (T : List Nat) : Prop := f 5 0 5 = nI T.length ∧ (∀ i, i < T.length → a 5 0 4 i = nI (T.getD i 0)) ∧ OKT T
def FL (f f' : FF) : Prop := ∀ t i k, ¬ (t = 5 ∧ i = 0 ∧ 6 ≤ k ∧ k ≤ 11) → f' t i k = f t i k
theorem FL.rf (f : FF) : FL f f := fun _ _ _ _ => rfl
theorem FL.tr {f f' f'' : FF} (h : FL f f') (h' : FL f' f'') : FL f f'' := fun t i k q => (h' t i k q).trans (h t i k q)
theorem FL.up {f f' : FF} (h : FL f f') (j : Nat) (hj : 6 ≤ j ∧ j ≤ 11) (x : Int32) : FL f (upf f' 5 0 j x) := fun t i k q => by
  rw [upf_ne (fun z => q ⟨z.1, z.2.1, by omega⟩)]
  exact h t i k q
theorem FL.at {f f' : FF} (h : FL f f') {k : Nat} (hk : k < 6 ∨ 11 < k) : f' 5 0 k = f 5 0 k := h 5 0 k (by omega)
theorem TM.fl {f f' : FF} {a : AA} {T : List Nat} (h : TM f a T) (hF : FL f f') : TM f' a T := ⟨by rw [hF.at (by decide)]; exact h.1, h.2⟩
/-- the sort of a token in the reference's numbers -/
def sgN (c : Nat) : Nat := if c = 45 then 3 else if c = 47 then 4 else if c = 43 then 5 else if c = 38 then 6 else 7
def srN (T : List Nat) (σ : Lx) : Nat := if σ.2.2.2 = 3 then sgN (T.getD σ.2.1 0) else σ.2.2.2
def LM (u : Nat → Int32) (T : List Nat) (σ : Lx) : Prop := u 10 = nI σ.1 ∧ (∃ p b, u 6 = nI p ∧ p ≤ T.length ∧ u 7 = nI b ∧ b ≤ T.length) ∧ (σ.1 ≠ 0 → u 11 = nI σ.2.1) ∧ (σ.1 = 0 → u 6 = nI σ.2.2.1 ∧ u 7 = nI σ.2.1 ∧ u 8 = nI (srN T σ) ∧ (σ.2.2.2 = 2 → u 9 = nI (nuN T σ)))
def LMT (f : FF) (a : AA) (T : List Nat) (σ : Lx) : Prop := TM f a T ∧ LM (f 5 0) T σ ∧ LOK T σ
def sX5_requires : SP := fun As f a Q => match As with
  | [.inr (.inr (5, 0, 0)), .inl g, .inl c] => (¬ (g = 0 ∧ f 5 0 10 = 0) → Q none f a) ∧ (g = 0 ∧ f 5 0 10 = 0 → Q none (upf (upf f 5 0 10 c) 5 0 11 (f 5 0 7)) a)
  | _ => False
def eX5_requires : En := (tX5_requires, [], fdX5, [], 2)
theorem eokX5_requires {g : Gm} (hg : GmOK g) : EnvOK g 0 RX5 cX5_requires none eX5_requires := ⟨okX5_requires, (fun _ _ _ _ h => by cases h), fdX5_ok, (fun _ _ h => by cases h), rfl⟩
theorem rX5_requires (av : List AV) (f : FF) (a : AA) (post : PT) (h : sX5_requires av f a post) (X : XT) (hX : Clo eX5_requires post X) : X 0 (padL 3 (ent av)) [] f a := by
  unfold sX5_requires at h
  split at h
  · obtain ⟨h1, h2⟩ := h
    refine hX [] 40 _ _ _ _ _ ?_
    refine ⟨fun q => h1 (fun z => q z.1), fun q => ⟨fun q2 => h1 (fun z => q2 z.2), fun q2 => ?_⟩⟩
    exact h2 ⟨by first | exact q | exact Decidable.not_not.mp q, by first | exact q2 | exact Decidable.not_not.mp q2⟩
  · exact h.elim
theorem shX5_requires : ∀ As f a Q, sX5_requires As f a Q → ∃ i r, As = .inr (.inr (5, i, 0)) :: r := by
  intro As f a Q h
  unfold sX5_requires at h
  split at h
  · exact ⟨_, _, rfl⟩
  · exact h.elim
theorem mX5_requires {g : Gm} (hg : GmOK g) : MetC g yX5_requires cX5_requires 3 none 0 sX5_requires := by
  refine MetC_of hg eX5_requires (eokX5_requires hg) (by decide +kernel) (fun av f a post h => ?_) rX5_requires
  unfold sX5_requires at h
  split at h
  · exact Nat.le_of_ble_eq_true rfl
  · exact h.elim
def byN (T : List Nat) (p : Nat) : Int32 := if p < T.length then nI (T.getD p 0) else -1
def sX5_byteAt : SP := fun As f a Q => match As with
  | [.inr (.inr (5, 0, 0)), .inl x] => ∃ T p, TM f a T ∧ x = nI p ∧ p < 1000 ∧ Q (some (.inl (byN T p))) f a
  | _ => False
def eX5_byteAt : En := (tX5_byteAt, [], fdX5, [], 0)
theorem eokX5_byteAt {g : Gm} (hg : GmOK g) : EnvOK g 0 RX5 cX5_byteAt (some .int) eX5_byteAt := ⟨okX5_byteAt, (fun _ _ _ _ h => by cases h), fdX5_ok, (fun _ _ h => by cases h), rfl⟩
theorem rX5_byteAt (av : List AV) (f : FF) (a : AA) (post : PT) (h : sX5_byteAt av f a post) (X : XT) (hX : Clo eX5_byteAt post X) : X 0 (padL 2 (ent av)) [] f a := by
  unfold sX5_byteAt at h
  split at h
  · obtain ⟨T, p, hT, rfl, hp, h⟩ := h
    have hlen := hT.2.2.1
    have c : f 5 0 5 ≤ nI p ↔ T.length ≤ p := i_le hT.1 rfl (by omega) (by omega)
    unfold byN at h
    refine hX [] 40 _ _ _ _ _ ?_
    refine ⟨fun q => ?_, fun q => ?_⟩
    · rw [if_neg (by have := c.mp q; omega)] at h
      exact h
    · have q : p < T.length := by have : ¬ T.length ≤ p := fun z => q (c.mpr z); omega
      rw [if_pos q] at h
      refine ⟨inA 160 rfl rfl (by omega) (by decide), pI h ?_⟩
      dsimp only
      rw [nI_clamp (by omega), hT.2.1 p q]
  · exact h.elim
theorem shX5_byteAt : ∀ As f a Q, sX5_byteAt As f a Q → ∃ i r, As = .inr (.inr (5, i, 0)) :: r := by
  intro As f a Q h
  unfold sX5_byteAt at h
  split at h
  · exact ⟨_, _, rfl⟩
  · exact h.elim
theorem mX5_byteAt {g : Gm} (hg : GmOK g) : MetC g yX5_byteAt cX5_byteAt 2 (some .int) 0 sX5_byteAt := by
  refine MetC_of hg eX5_byteAt (eokX5_byteAt hg) (by decide +kernel) (fun av f a post h => ?_) rX5_byteAt
  unfold sX5_byteAt at h
  split at h
  · exact Nat.le_of_ble_eq_true rfl
  · exact h.elim
def sX5_signOf : SP := fun As f a Q => match As with
  | [.inl x] => ∃ c, x = nI c ∧ c < 128 ∧ Q (some (.inl (nI (sgN c)))) f a
  | _ => False
def eX5_signOf : En := (tX5_signOf, [], fdX5, [], 0)
theorem eokX5_signOf {g : Gm} (hg : GmOK g) : EnvOK g 0 RX5 cX5_signOf (some .int) eX5_signOf := ⟨okX5_signOf, (fun _ _ _ _ h => by cases h), fdX5_ok, (fun _ _ h => by cases h), rfl⟩
theorem rX5_signOf (av : List AV) (f : FF) (a : AA) (post : PT) (h : sX5_signOf av f a post) (X : XT) (hX : Clo eX5_signOf post X) : X 0 (padL 1 (ent av)) [] f a := by
  unfold sX5_signOf at h
  split at h
  · obtain ⟨c, rfl, hc, h⟩ := h
    have t : (nI c).toInt = (c : Int) := nI_toInt (by omega)
    have e : ∀ j : Nat, (nI c).toInt = (38 : Int) + (j : Int) → c = 38 + j := fun j q => by
      rw [t] at q
      omega
    refine hX [] 40 _ _ _ _ _ ?_
    refine ⟨⟨fun q => ?_, fun q => ?_, fun q => ?_, fun q => ?_, fun q => ?_, fun q => ?_, fun q => ?_, fun q => ?_, fun q => ?_, fun q => ?_, trivial⟩, fun q => ?_⟩
    · rw [e 0 q] at h
      exact h
    · rw [e 1 q] at h
      exact h
    · rw [e 2 q] at h
      exact h
    · rw [e 3 q] at h
      exact h
    · rw [e 4 q] at h
      exact h
    · rw [e 5 q] at h
      exact h
    · rw [e 6 q] at h
      exact h
    · rw [e 7 q] at h
      exact h
    · rw [e 8 q] at h
      exact h
    · rw [e 9 q] at h
      exact h
    · have q : (c : Int) < 38 ∨ 47 < (c : Int) := by
        rw [← t]
        exact q
      have : sgN c = 7 := by
        unfold sgN
        rw [if_neg (by omega), if_neg (by omega), if_neg (by omega), if_neg (by omega)]
      rw [this] at h
      exact h
  · exact h.elim
theorem mX5_signOf {g : Gm} (hg : GmOK g) : MetC g yX5_signOf cX5_signOf 1 (some .int) 0 sX5_signOf := by
  refine MetC_of hg eX5_signOf (eokX5_signOf hg) (by decide +kernel) (fun av f a post h => ?_) rX5_signOf
  unfold sX5_signOf at h
  split at h
  · exact Nat.le_of_ble_eq_true rfl
  · exact h.elim
theorem tk1 (c : Nat) : tkN c = 1 ↔ 97 ≤ c ∧ c ≤ 122 := by
  unfold tkN
  split
  · simp_all
  · split
    · simp_all
    · split <;> simp_all
theorem tk2 (c : Nat) : tkN c = 2 ↔ 48 ≤ c ∧ c ≤ 57 := by
  unfold tkN
  split
  · constructor
    · intro z
      exact absurd z (by decide)
    · intro z
      omega
  · split
    · simp_all
    · split <;> simp_all
theorem in_b {T : List Nat} (hO : OKT T) {p : Nat} {lo hi : Nat} {x y : Int64} (hx : x = (nI lo).toInt64) (hy : y = (nI hi).toInt64) (hlo : 0 < lo) (h1 : lo < 128) (h2 : hi < 128) : b2i (decide (x ≤ (byN T p).toInt64 ∧ (byN T p).toInt64 ≤ y)) = b2i (decide (p < T.length ∧ lo ≤ T.getD p 0 ∧ T.getD p 0 ≤ hi)) := by
  rw [hx, hy]
  simp only [in32]
  congr 1
  rw [decide_eq_decide]
  unfold byN
  by_cases hp : p < T.length
  · have h128 := hO.2 p hp
    rw [if_pos hp, nI_leI (by omega) (by omega), nI_leI (by omega) (by omega)]
    exact ⟨fun z => ⟨hp, z⟩, fun z => z.2⟩
  · rw [if_neg hp]
    refine ⟨fun z => ?_, fun z => absurd z.1 hp⟩
    have z1 := z.1
    rw [Int32.le_iff_toInt_le, nI_toInt (by omega), show (-1 : Int32).toInt = -1 from by decide] at z1
    omega
theorem nuU_s (T : List Nat) : ∀ n i x, nuU T (n + 1) i x = 10 * nuU T n i x + T.getD (i + n) 0 - 48
  | 0, i, x => rfl
  | n + 1, i, x => by
    show nuU T (n + 1) (i + 1) (10 * x + T.getD i 0 - 48) = 10 * nuU T n (i + 1) (10 * x + T.getD i 0 - 48) + _ - 48
    rw [nuU_s T n (i + 1), show i + 1 + n = i + (n + 1) by omega]
theorem tkB_t {T : List Nat} {k i : Nat} : tkB T k i = true ↔ tkN (T.getD i 0) = k := decide_eq_true_iff
theorem blB_t {T : List Nat} {i : Nat} : blB T i = true ↔ T.getD i 0 = 32 := decide_eq_true_iff
def sX5_reads : SP := fun As f a Q => match As with
  | [.inr (.inr (5, 0, 0))] => ∃ T σ, TM f a T ∧ f 5 0 10 = nI σ.1 ∧ LOK0 T σ ∧ (σ.1 ≠ 0 → LM (f 5 0) T σ) ∧ (σ.1 = 0 → f 5 0 6 = nI σ.2.2.1) ∧ ∀ f', FL f f' → LM (f' 5 0) T (stepN T σ) → Q none f' a
  | _ => False
def eX5_reads : En := (tX5_reads, [(93, false, 2, sX5_byteAt), (71, true, 3, sX5_in), (108, false, 3, sX5_requires), (112, true, 1, sX5_signOf)], fdX5, [(97, .inr (.inl 97)), (99, .inr (.inl 122)), (101, .inr (.inl 48)), (103, .inr (.inl 57))], 2)
theorem eokX5_reads {g : Gm} (hg : GmOK g) : EnvOK g 1 RX5 cX5_reads none eX5_reads := ⟨okX5_reads, fun _ _ _ _ h => as2_all (P := fun i v => CallOK g 1 RX5 i v.1 v.2.1 v.2.2) (l := eX5_reads.2.1) ⟨callV_ok (t := 5) hg (mX5_byteAt hg) kX5_byteAt mlX5_93 qX5_byteAt.1 qX5_byteAt.2 ⟨by decide, by decide⟩ ⟨_, _, rfl⟩ shX5_byteAt, callS_ok hg (mX5_in hg) kX5_in mlX5_71 qX5_in ⟨by decide, by decide⟩, callV_ok (t := 5) hg (mX5_requires hg) kX5_requires mlX5_108 qX5_requires.1 qX5_requires.2 ⟨by decide, by decide⟩ ⟨_, _, rfl⟩ shX5_requires, callS_ok hg (mX5_signOf hg) kX5_signOf mlX5_112 qX5_signOf ⟨by decide, by decide⟩, trivial⟩ h, fdX5_ok, fun _ _ h => as2_all (P := fun i v => CstOK g RX5 i v ∧ vld v) (l := eX5_reads.2.2.2.1) ⟨cstX5_97, cstX5_99, cstX5_101, cstX5_103, trivial⟩ h, rfl⟩
theorem rX5_reads (av : List AV) (f : FF) (a : AA) (post : PT) (h : sX5_reads av f a post) (X : XT) (hX : Clo eX5_reads post X) : X 0 (padL 2 (ent av)) [] f a := by
  unfold sX5_reads at h
  split at h
  · obtain ⟨T, σ, hT, e10, hL, hF0, hp0, h⟩ := h
    have hO := hT.2.2
    have hlen := hO.1
    have hz : f 5 0 10 ≤ 0 ↔ σ.1 ≤ 0 := i_le e10 (show (0 : Int32) = nI 0 from rfl) (by have := hL.1; omega) (by decide)
    refine hX [8] 40 _ _ _ _ _ ?_
    refine ⟨fun q => ?_, fun q => ?_⟩
    · have q0 : σ.1 = 0 := by have := hz.mp q; omega
      have l3 := hp0 q0
      have es : stepN T σ = if T.length ≤ stS T σ.2.2.1 then (0, stS T σ.2.2.1, stS T σ.2.2.1, 0) else
        if tkN (T.getD (stS T σ.2.2.1) 0) = 0 ∨ (tkN (T.getD (stS T σ.2.2.1) 0) = 2 ∧ 2 < stE T (stS T σ.2.2.1) - stS T σ.2.2.1) then (1, stS T σ.2.2.1, stE T (stS T σ.2.2.1), 0)
        else (0, stS T σ.2.2.1, stE T (stS T σ.2.2.1), tkN (T.getD (stS T σ.2.2.1) 0)) := by
        unfold stepN
        rw [if_neg (fun z => z q0)]
      rw [es] at h
      have hs := stS_le hL.2
      obtain ⟨S, hS⟩ : ∃ S, S = stS T σ.2.2.1 := ⟨_, rfl⟩
      rw [← hS] at h hs
      obtain ⟨E, hE⟩ : ∃ E, E = stE T S := ⟨_, rfl⟩
      rw [← hE] at h
      obtain ⟨c, hc⟩ : ∃ c, c = T.getD S 0 := ⟨_, rfl⟩
      rw [← hc] at h
      have hEl : S < T.length → S < E ∧ E ≤ T.length := fun hlt => by rw [hE]; exact stE_le hlt
      have eE : E = if tkN c = 3 then S + 1 else skU (tkB T (tkN c)) (T.length - (S + 1)) (S + 1) := by
        rw [hE, hc]
        rfl
      -- names
      have l82 : S < T.length → tkN c = 1 → ∀ d e f1 z, FL f f1 → f1 5 0 10 = 0 → f1 5 0 7 = nI S → f1 5 0 8 = 1 → f1 5 0 6 = nI e → e + d = T.length → E = skU (tkB T 1) d e → X 82 [some (.inr (.inr (5, 0, 0))), z] [] f1 a := by
        intro hlt hk
        rw [if_neg (by omega), if_neg (by omega)] at h
        have fin : ∀ f1, FL f f1 → f1 5 0 10 = 0 → f1 5 0 7 = nI S → f1 5 0 8 = 1 → f1 5 0 6 = nI E → post none f1 a := fun f1 hF e1 e7 e8 e6 => by
          refine h f1 hF ⟨e1, ⟨E, S, e6, (hEl hlt).2, e7, by omega⟩, fun z => absurd rfl z, fun _ => ⟨e6, e7, ?_, fun z => ?_⟩⟩
          · rw [e8]
            unfold srN
            dsimp only
            rw [if_neg (by omega), hk]
            rfl
          · have z : tkN c = 2 := z
            omega
        intro d
        induction d with
        | zero =>
          intro e f1 z hF e1 e7 e8 e6 hd hEe
          have hb : b2i (decide ((97 : Int64) ≤ (byN T e).toInt64 ∧ (byN T e).toInt64 ≤ (122 : Int64))) = _ := in_b hO (p := e) (lo := 97) (hi := 122) (by decide) (by decide) (by decide) (by decide) (by decide)
          refine hX [82] 40 _ _ _ _ _ ?_
          refine ⟨T, e, hT.fl hF, e6, by omega, ⟨fun _ => fin f1 hF e1 e7 e8 (by rw [hEe]; exact e6), fun q => ?_⟩⟩
          have q := of_decide_eq_true (b2i_n0.mp (fun y => q (hb.trans y)))
          omega
        | succ d ih =>
          intro e f1 z hF e1 e7 e8 e6 hd hEe
          have hb : b2i (decide ((97 : Int64) ≤ (byN T e).toInt64 ∧ (byN T e).toInt64 ≤ (122 : Int64))) = _ := in_b hO (p := e) (lo := 97) (hi := 122) (by decide) (by decide) (by decide) (by decide) (by decide)
          have hEe : E = if tkB T 1 e = true then skU (tkB T 1) d (e + 1) else e := hEe
          refine hX [82] 40 _ _ _ _ _ ?_
          refine ⟨T, e, hT.fl hF, e6, by omega, ⟨fun q => ?_, fun q => ?_⟩⟩
          · have q := of_decide_eq_false (b2i_e0.mp (hb.symm.trans q))
            rw [if_neg (fun (y : tkB T 1 e = true) => q ⟨by omega, (tk1 _).mp (tkB_t.mp y)⟩)] at hEe
            exact fin f1 hF e1 e7 e8 (by rw [hEe]; exact e6)
          · have q := of_decide_eq_true (b2i_n0.mp (fun y => q (hb.trans y)))
            rw [if_pos (tkB_t.mpr ((tk1 _).mpr q.2))] at hEe
            refine ih (e + 1) _ z (hF.up 6 (by decide) _) e1 e7 e8 ?_ (by omega) hEe
            show f1 5 0 6 + 1 = _
            rw [e6, nI_1]
      -- numbers
      have l140 : S < T.length → tkN c = 2 → ∀ d e f1 z, FL f f1 → f1 5 0 10 = 0 → f1 5 0 7 = nI S → f1 5 0 8 = 2 → f1 5 0 6 = nI e → S ≤ e → (e - S ≤ 2 → f1 5 0 9 = nI (nuU T (e - S) S 0)) → e + d = T.length → E = skU (tkB T 2) d e → X 140 [some (.inr (.inr (5, 0, 0))), z] [] f1 a := by
        intro hlt hk
        rw [if_neg (by omega)] at h
        have fin : ∀ f1 z, FL f f1 → f1 5 0 10 = 0 → f1 5 0 7 = nI S → f1 5 0 8 = 2 → f1 5 0 6 = nI E → (E - S ≤ 2 → f1 5 0 9 = nI (nuU T (E - S) S 0)) → X 217 [some (.inr (.inr (5, 0, 0))), z] [] f1 a := fun f1 z hF e1 e7 e8 e6 e9 => by
          have hEl := hEl hlt
          have cl_ : 2 < f1 5 0 6 - f1 5 0 7 ↔ 2 < E - S := i_lt (show (2 : Int32) = nI 2 from rfl) (by rw [e6, e7, pk_sub (by omega)]) (by decide) (by omega)
          refine hX [] 40 _ _ _ _ _ ?_
          refine ⟨fun q => ?_, fun q => ?_⟩
          · have q := cl_.mp q
            rw [if_pos (Or.inr ⟨hk, q⟩)] at h
            refine ⟨fun y => absurd ⟨rfl, e1⟩ y, fun _ => ?_⟩
            refine h _ ((hF.up 10 (by decide) _).up 11 (by decide) _) ⟨rfl, ⟨E, S, ?_, hEl.2, ?_, by omega⟩, fun _ => ?_, fun y => absurd y (by show ¬ 1 = 0; decide)⟩
            · rw [upf_s, if_neg (by decide), upf_s, if_neg (by decide)]
              exact e6
            · rw [upf_s, if_neg (by decide), upf_s, if_neg (by decide)]
              exact e7
            · rw [upf_s, if_pos rfl]
              exact e7
          · have q : ¬ 2 < E - S := fun y => q (cl_.mpr y)
            rw [if_neg (by omega)] at h
            refine ⟨fun _ => ?_, fun y => absurd y.1 (by decide)⟩
            refine h f1 hF ⟨e1, ⟨E, S, e6, hEl.2, e7, by omega⟩, fun y => absurd rfl y, fun _ => ⟨e6, e7, ?_, fun _ => e9 (by omega)⟩⟩
            rw [e8]
            unfold srN
            dsimp only
            rw [if_neg (by omega), hk]
            rfl
        intro d
        induction d with
        | zero =>
          intro e f1 z hF e1 e7 e8 e6 hSe e9 hd hEe
          have hb : b2i (decide ((48 : Int64) ≤ (byN T e).toInt64 ∧ (byN T e).toInt64 ≤ (57 : Int64))) = _ := in_b hO (p := e) (lo := 48) (hi := 57) (by decide) (by decide) (by decide) (by decide) (by decide)
          have hEe : E = e := hEe
          refine hX [217] 40 _ _ _ _ _ ?_
          refine ⟨T, e, hT.fl hF, e6, by omega, ⟨fun _ => fin f1 z hF e1 e7 e8 (by rw [hEe]; exact e6) (by rw [hEe]; exact e9), fun q => ?_⟩⟩
          have q := of_decide_eq_true (b2i_n0.mp (fun y => q (hb.trans y)))
          omega
        | succ d ih =>
          intro e f1 z hF e1 e7 e8 e6 hSe e9 hd hEe
          have hb : b2i (decide ((48 : Int64) ≤ (byN T e).toInt64 ∧ (byN T e).toInt64 ≤ (57 : Int64))) = _ := in_b hO (p := e) (lo := 48) (hi := 57) (by decide) (by decide) (by decide) (by decide) (by decide)
          have hEe : E = if tkB T 2 e = true then skU (tkB T 2) d (e + 1) else e := hEe
          refine hX [140, 217] 60 _ _ _ _ _ ?_
          refine ⟨T, e, hT.fl hF, e6, by omega, ⟨fun q => ?_, fun q => ?_⟩⟩
          · have q := of_decide_eq_false (b2i_e0.mp (hb.symm.trans q))
            rw [if_neg (fun (y : tkB T 2 e = true) => q ⟨by omega, (tk2 _).mp (tkB_t.mp y)⟩)] at hEe
            exact fin f1 z hF e1 e7 e8 (by rw [hEe]; exact e6) (by rw [hEe]; exact e9)
          · have q := of_decide_eq_true (b2i_n0.mp (fun y => q (hb.trans y)))
            rw [if_pos (tkB_t.mpr ((tk2 _).mpr q.2))] at hEe
            have cl_ : 2 ≤ f1 5 0 6 - f1 5 0 7 ↔ 2 ≤ e - S := i_le (show (2 : Int32) = nI 2 from rfl) (by rw [e6, e7, pk_sub (by omega)]) (by decide) (by omega)
            refine ⟨fun q2 => ?_, fun q2 => ?_⟩
            · have q2 := cl_.mp q2
              refine ih (e + 1) _ z ((hF.up 9 (by decide) _).up 6 (by decide) _) e1 e7 e8 ?_ (by omega) (fun y => by omega) (by omega) hEe
              show f1 5 0 6 + 1 = _
              rw [e6, nI_1]
            · have q2 : ¬ 2 ≤ e - S := fun y => q2 (cl_.mpr y)
              have e9 := e9 (by omega)
              refine ⟨T, e, hT.fl hF, e6, by omega, ?_⟩
              refine ih (e + 1) _ z ((hF.up 9 (by decide) _).up 6 (by decide) _) e1 e7 e8 ?_ (by omega) (fun _ => ?_) (by omega) hEe
              · show f1 5 0 6 + 1 = _
                rw [e6, nI_1]
              · show 10 * f1 5 0 9 + byN T e - 48 = _
                unfold byN
                rw [if_pos q.1, e9, show (10 : Int32) = nI 10 from rfl, show (48 : Int32) = nI 48 from rfl, nI_mul, nI_add, pk_sub (by have := q.2.1; omega), show e + 1 - S = (e - S) + 1 by omega, nuU_s, show S + (e - S) = e by omega]
      -- signs
      have l243 : S < T.length → tkN c ≠ 1 → tkN c ≠ 2 → ∀ f1, FL f f1 → f1 5 0 10 = 0 → f1 5 0 7 = nI S → f1 5 0 6 = nI S → X 243 [some (.inr (.inr (5, 0, 0))), some (.inl (nI c))] [] f1 a := by
        intro hlt k1 k2 f1 hF e1 e7 e6
        rw [if_neg (by omega)] at h
        have hc128 : c < 128 := by rw [hc]; exact hO.2 S hlt
        have hEl := hEl hlt
        have h7 : sgN c < 8 := by
          unfold sgN
          repeat' split
          all_goals decide
        have c7 : nI (sgN c) = 7 ↔ sgN c = 7 := nI_eq (b := 7) (by omega) (by decide)
        have c59 : nI c = 59 ↔ c = 59 := nI_eq (b := 59) (by omega) (by decide)
        have k3 : tkN c = 3 ↔ (sgN c ≠ 7 ∨ c = 59) := by
          have u : ∀ c, c < 128 → tkN c ≠ 1 → tkN c ≠ 2 → (tkN c = 3 ↔ (sgN c ≠ 7 ∨ c = 59)) := by decide +kernel
          exact u c hc128 k1 k2
        have e6' : f1 5 0 6 + 1 = nI (S + 1) := by rw [e6, nI_1]
        have good : tkN c = 3 → X 267 [some (.inr (.inr (5, 0, 0))), some (.inl (nI c))] [.inr (.inr (5, 0, 0))] (upf f1 5 0 8 (nI (sgN c))) a := fun z => by
          rw [if_neg (by omega)] at h
          refine hX [] 40 _ _ _ _ _ ?_
          refine ⟨fun _ => ?_, fun y => absurd y.1 (by decide)⟩
          have eE : E = S + 1 := by rw [eE, if_pos z]
          refine h _ ((hF.up 8 (by decide) _).up 6 (by decide) _) ⟨e1, ⟨S + 1, S, e6', by omega, e7, by omega⟩, fun y => absurd rfl y, fun _ => ⟨by rw [eE]; exact e6', e7, ?_, fun y => absurd z (by have y : tkN c = 2 := y; omega)⟩⟩
          unfold srN
          dsimp only
          rw [if_pos z, ← hc]
          rfl
        have wrong : tkN c ≠ 3 → X 271 [some (.inr (.inr (5, 0, 0))), some (.inl (nI c))] [.inr (.inr (5, 0, 0))] (upf f1 5 0 8 (nI (sgN c))) a := fun z => by
          have k0 : tkN c = 0 := by have := tkN_lt c; omega
          rw [if_pos (Or.inl k0)] at h
          refine hX [] 40 _ _ _ _ _ ?_
          refine ⟨fun y => absurd ⟨rfl, e1⟩ y, fun _ => ?_⟩
          refine h _ ((((hF.up 8 (by decide) _).up 10 (by decide) _).up 11 (by decide) _).up 6 (by decide) _) ⟨rfl, ⟨S + 1, S, e6', by omega, e7, by omega⟩, fun _ => e7, fun y => absurd y (by show ¬ 1 = 0; decide)⟩
        refine hX [267, 271] 40 _ _ _ _ _ ?_
        refine ⟨c, rfl, hc128, ⟨fun q => ?_, fun q => ⟨fun q2 => ?_, fun q2 => ?_⟩⟩⟩
        · exact good (k3.mpr (Or.inl (fun z => q (c7.mpr z))))
        · have q : sgN c = 7 := c7.mp q
          exact wrong (fun z => (k3.mp z).elim (fun y => y q) (fun y => q2 (c59.mpr y)))
        · exact good (k3.mpr (Or.inr (c59.mp q2)))
      -- a token begins
      have h34 : ∀ f1 z, FL f f1 → f1 5 0 10 = 0 → f1 5 0 6 = nI S → X 34 [some (.inr (.inr (5, 0, 0))), z] [] f1 a := by
        intro f1 z hF e1 e6
        have e7 : upf f1 5 0 7 (f1 5 0 6) 5 0 7 = nI S := by rw [upf_s, if_pos rfl]; exact e6
        refine hX [82, 140, 243] 60 _ _ _ _ _ ?_
        refine ⟨T, S, hT.fl (hF.up 7 (by decide) _), e6, by omega, ?_⟩
        by_cases hlt : S < T.length
        · have hc128 : c < 128 := by rw [hc]; exact hO.2 S hlt
          have eb : byN T S = nI c := by
            unfold byN
            rw [if_pos hlt, ← hc]
          have b1 : b2i (decide ((97 : Int64) ≤ (byN T S).toInt64 ∧ (byN T S).toInt64 ≤ (122 : Int64))) = _ := in_b hO (p := S) (lo := 97) (hi := 122) (by decide) (by decide) (by decide) (by decide) (by decide)
          have b2 : b2i (decide ((48 : Int64) ≤ (byN T S).toInt64 ∧ (byN T S).toInt64 ≤ (57 : Int64))) = _ := in_b hO (p := S) (lo := 48) (hi := 57) (by decide) (by decide) (by decide) (by decide) (by decide)
          rw [← hc] at b1 b2
          refine ⟨fun _ => ⟨fun q => ⟨fun q2 => ?_, fun q2 => ?_⟩, fun q => ?_⟩, fun q => absurd (by rw [eb]; exact nI_pos' (by omega)) q⟩
          · have q := of_decide_eq_false (b2i_e0.mp (b1.symm.trans q))
            have q2 := of_decide_eq_false (b2i_e0.mp (b2.symm.trans q2))
            rw [eb]
            exact l243 hlt (fun y => q ⟨hlt, (tk1 _).mp y⟩) (fun y => q2 ⟨hlt, (tk2 _).mp y⟩) _ (hF.up 7 (by decide) _) e1 e7 e6
          · have q2 := of_decide_eq_true (b2i_n0.mp (fun y => q2 (b2.trans y)))
            have k2 := (tk2 _).mpr q2.2
            refine l140 hlt k2 (T.length - S) S _ _ (((hF.up 7 (by decide) _).up 8 (by decide) _).up 9 (by decide) _) e1 e7 rfl e6 (Nat.le_refl _) (fun _ => ?_) (by omega) ?_
            · rw [Nat.sub_self]
              rfl
            · rw [eE, if_neg (by omega), k2, show T.length - S = (T.length - (S + 1)) + 1 by omega]
              show _ = if tkB T 2 S = true then _ else _
              rw [if_pos (tkB_t.mpr (show tkN (T.getD S 0) = 2 by rw [← hc]; exact k2))]
          · have q := of_decide_eq_true (b2i_n0.mp (fun y => q (b1.trans y)))
            have k1 := (tk1 _).mpr q.2
            refine l82 hlt k1 (T.length - S) S _ _ ((hF.up 7 (by decide) _).up 8 (by decide) _) e1 e7 rfl e6 (by omega) ?_
            rw [eE, if_neg (by omega), k1, show T.length - S = (T.length - (S + 1)) + 1 by omega]
            show _ = if tkB T 1 S = true then _ else _
            rw [if_pos (tkB_t.mpr (show tkN (T.getD S 0) = 1 by rw [← hc]; exact k1))]
        · have eb : byN T S = -1 := by
            unfold byN
            rw [if_neg hlt]
          refine ⟨fun q => absurd q (by rw [eb]; decide), fun _ => ?_⟩
          rw [if_pos (by omega)] at h
          exact h _ ((hF.up 7 (by decide) _).up 8 (by decide) _) ⟨e1, ⟨S, S, e6, hs.2, e7, hs.2⟩, fun y => absurd rfl y, fun _ => ⟨e6, e7, rfl, fun y => absurd y (by show ¬ 0 = 2; decide)⟩⟩
      have h8 : ∀ d i f1 z, FL f f1 → f1 5 0 10 = 0 → f1 5 0 6 = nI i → i + d = T.length → S = skU (blB T) d i → X 8 [some (.inr (.inr (5, 0, 0))), z] [] f1 a := by
        intro d
        induction d with
        | zero =>
          intro i f1 z hF e1 e6 hd hSi
          refine hX [34] 40 _ _ _ _ _ ?_
          refine ⟨T, i, hT.fl hF, e6, by omega, ⟨fun _ => h34 f1 z hF e1 (by rw [hSi]; exact e6), fun q => ?_⟩⟩
          unfold byN at q
          rw [if_neg (by omega)] at q
          exact absurd q (by decide)
        | succ d ih =>
          intro i f1 z hF e1 e6 hd hSi
          have hi : i < T.length := by omega
          have h128 := hO.2 i hi
          have hSi : S = if blB T i = true then skU (blB T) d (i + 1) else i := hSi
          have hb : byN T i = 32 ↔ T.getD i 0 = 32 := i_eq (b := 32) (by unfold byN; rw [if_pos hi]) rfl (by omega) (by decide)
          refine hX [8, 34] 40 _ _ _ _ _ ?_
          refine ⟨T, i, hT.fl hF, e6, by omega, ⟨fun q => ?_, fun q => ?_⟩⟩
          · rw [if_neg (fun (y : blB T i = true) => q (hb.mpr (blB_t.mp y)))] at hSi
            exact h34 f1 z hF e1 (by rw [hSi]; exact e6)
          · rw [if_pos (blB_t.mpr (hb.mp q))] at hSi
            refine ih (i + 1) _ z (hF.up 6 (by decide) _) e1 ?_ (by omega) hSi
            show f1 5 0 6 + 1 = _
            rw [e6, nI_1]
      have hel := hL.2
      exact h8 (T.length - σ.2.2.1) σ.2.2.1 f none (FL.rf f) (by rw [e10, q0]; rfl) l3 (by omega) hS
    · have q0 : σ.1 ≠ 0 := fun z => q (hz.mpr (by omega))
      rw [step_id q0] at h
      exact h f (FL.rf f) (hF0 q0)
  · exact h.elim
theorem shX5_reads : ∀ As f a Q, sX5_reads As f a Q → ∃ i r, As = .inr (.inr (5, i, 0)) :: r := by
  intro As f a Q h
  unfold sX5_reads at h
  split at h
  · exact ⟨_, _, rfl⟩
  · exact h.elim
theorem mX5_reads {g : Gm} (hg : GmOK g) : MetC g yX5_reads cX5_reads 2 none 1 sX5_reads := by
  refine MetC_of hg eX5_reads (eokX5_reads hg) (by decide +kernel) (fun av f a post h => ?_) rX5_reads
  unfold sX5_reads at h
  split at h
  · exact Nat.le_of_ble_eq_true rfl
  · exact h.elim
