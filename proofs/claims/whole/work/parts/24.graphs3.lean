/-! Graphs: what is asked of the list -/
def bt (x : Int32) (i : Nat) : Bool := x.toBitVec.getLsbD i
theorem b_ext {x y : Int32} (h : ∀ i, i < 32 → bt x i = bt y i) : x = y := Int32.toBitVec_inj.mp (BitVec.eq_of_getLsbD_eq (fun i hi => h i hi))
theorem b_or (x y : Int32) (i : Nat) : bt (x ||| y) i = (bt x i || bt y i) := by unfold bt; rw [Int32.toBitVec_or, BitVec.getLsbD_or]
theorem b_and (x y : Int32) (i : Nat) : bt (x &&& y) i = (bt x i && bt y i) := by unfold bt; rw [Int32.toBitVec_and, BitVec.getLsbD_and]
theorem b_xor (x y : Int32) (i : Nat) : bt (x ^^^ y) i = (bt x i ^^ bt y i) := by unfold bt; rw [Int32.toBitVec_xor, BitVec.getLsbD_xor]
theorem b_big {x : Int32} {i : Nat} (h : 32 ≤ i) : bt x i = false := BitVec.getLsbD_of_ge _ _ h
theorem b_255 (i : Nat) : bt 255 i = decide (i < 8) := by
  rcases Nat.lt_or_ge i 32 with h | h
  · exact (by decide +kernel : ∀ i, i < 32 → bt 255 i = decide (i < 8)) i h
  · rw [b_big h, decide_eq_false (by omega)]
theorem b_65535 (i : Nat) : bt 65535 i = decide (i < 16) := by
  rcases Nat.lt_or_ge i 32 with h | h
  · exact (by decide +kernel : ∀ i, i < 32 → bt 65535 i = decide (i < 16)) i h
  · rw [b_big h, decide_eq_false (by omega)]
theorem b_m1 : ∀ i, i < 32 → bt (-1) i = true := by decide +kernel
theorem b_0 (i : Nat) : bt 0 i = false := BitVec.getLsbD_zero
theorem s_l : ∀ n, n < 32 → ((nI n &&& 31).toBitVec.smod 32).toNat = n := by decide +kernel
theorem s_u : ∀ n, n < 32 → (((nI n).toUInt32 &&& Int32.toUInt32 31).toBitVec % 32).toNat = n := by decide +kernel
theorem b_shl (n : Nat) (hn : n < 32) (x : Int32) {i : Nat} (hi : i < 32) : bt (x <<< (nI n &&& 31)) i = (decide (n ≤ i) && bt x (i - n)) := by
  unfold bt
  rw [Int32.toBitVec_shiftLeft]
  show (x.toBitVec <<< ((nI n &&& 31).toBitVec.smod 32).toNat).getLsbD i = _
  rw [s_l n hn, BitVec.getLsbD_shiftLeft]
  rcases Nat.lt_or_ge i n with h | h
  · simp [h, Nat.not_le.mpr h]
  · simp [hi, h, Nat.not_lt.mpr h]
theorem b_ushr (n : Nat) (hn : n < 32) (x : Int32) (i : Nat) : bt ((x.toUInt32 >>> ((nI n).toUInt32 &&& Int32.toUInt32 31)).toInt32) i = bt x (n + i) := by
  show (x.toUInt32 >>> ((nI n).toUInt32 &&& Int32.toUInt32 31)).toBitVec.getLsbD i = x.toUInt32.toBitVec.getLsbD (n + i)
  rw [UInt32.toBitVec_shiftRight]
  show (x.toUInt32.toBitVec >>> (((nI n).toUInt32 &&& Int32.toUInt32 31).toBitVec % 32).toNat).getLsbD i = _
  rw [s_u n hn, BitVec.getLsbD_ushiftRight]
theorem b_sshr (n : Nat) (hn : n < 32) (x : Int32) {i : Nat} (hi : i < 32) : bt (x >>> (nI n &&& 31)) i = if n + i < 32 then bt x (n + i) else bt x 31 := by
  unfold bt
  rw [Int32.toBitVec_shiftRight]
  show (x.toBitVec.sshiftRight ((nI n &&& 31).toBitVec.smod 32).toNat).getLsbD i = _
  rw [s_l n hn, BitVec.getLsbD_sshiftRight, BitVec.msb_eq_getLsbD_last]
  simp [hi]
def anyK (p : Nat → Bool) : Nat → Bool
  | 0 => false
  | n + 1 => anyK p n || p n
theorem anyK_t {p : Nat → Bool} : ∀ {n : Nat}, anyK p n = true ↔ ∃ k, k < n ∧ p k = true
  | 0 => ⟨(fun h => by cases h), fun ⟨k, hk, _⟩ => absurd hk (Nat.not_lt_zero k)⟩
  | n + 1 => by
    unfold anyK
    rw [Bool.or_eq_true, anyK_t (n := n)]
    constructor
    · rintro (⟨k, hk, h⟩ | h)
      · exact ⟨k, by omega, h⟩
      · exact ⟨n, by omega, h⟩
    · rintro ⟨k, hk, h⟩
      rcases (show k < n ∨ k = n by omega) with z | rfl
      · exact Or.inl ⟨k, z, h⟩
      · exact Or.inr h
theorem anyK_f {p : Nat → Bool} {n : Nat} (h : ∀ k, k < n → p k = false) : anyK p n = false := by
  cases hh : anyK p n with
  | false => rfl
  | true =>
    obtain ⟨k, hk, hp⟩ := anyK_t.mp hh
    rw [h k hk] at hp
    cases hp
def firstU (p : Nat → Bool) : Nat → Nat → Option Nat
  | 0, _ => none
  | d + 1, i => if p i then some i else firstU p d (i + 1)
/-- no relation of x is above y's -/
def leC (x y : Nat) : Bool := decide (rl x 0 0 ≤ rl y 0 0) && (decide (rl x 0 1 ≤ rl y 0 1) && (decide (rl x 1 0 ≤ rl y 1 0) && decide (rl x 1 1 ≤ rl y 1 1)))
theorem leC_all : (List.range 81).all (fun x => (List.range 81).all (fun y => (leC x y == decide (nI (bitsN x) &&& (nI (bitsN y) ^^^ (-1)) = 0)) && (!(leC x y) || decide (x ≤ y)))) = true := by decide +kernel
theorem leC_i {x y : Nat} (hx : x < 81) (hy : y < 81) : leC x y = decide (nI (bitsN x) &&& (nI (bitsN y) ^^^ (-1)) = 0) := by
  have h := List.all_eq_true.mp (List.all_eq_true.mp leC_all x (List.mem_range.mpr hx)) y (List.mem_range.mpr hy)
  simp only [Bool.and_eq_true] at h
  exact eq_of_beq h.1
theorem leC_le {x y : Nat} (hx : x < 81) (hy : y < 81) (hl : leC x y = true) : x ≤ y := by
  have h := List.all_eq_true.mp (List.all_eq_true.mp leC_all x (List.mem_range.mpr hx)) y (List.mem_range.mpr hy)
  simp only [Bool.and_eq_true, Bool.or_eq_true, hl, Bool.not_true, Bool.false_eq_true, false_or, decide_eq_true_eq] at h
  exact h.2
def needB (L : List Gr) (g : Nat) : Bool := anyK (fun h => decide (h ≠ g) && (decide ((ge L h).1 = (ge L g).1) && (decide ((ge L h).2.1 = (ge L g).2.1) && leC (ge L h).2.2.1 (ge L g).2.2.1))) L.length
def needC (L : List Gr) (g : Nat) : Nat → Bool := fun c => match fnd L (pl (ge L g).1 (ge L g).2.1 c) with
  | some h => leC (ge L h).2.2.1 (ge L g).2.2.1
  | none => false
theorem need_eq {L : List Gr} (hL : WL L) {g : Nat} (hg : g < L.length) : anyK (needC L g) (ge L g).2.2.1 = needB L g := by
  have he := hL.1 g hg
  rw [Bool.eq_iff_iff, needB, anyK_t, anyK_t]
  constructor
  · rintro ⟨c, hc, h⟩
    unfold needC at h
    cases hf : fnd L (pl (ge L g).1 (ge L g).2.1 c) with
    | none => rw [hf] at h; cases h
    | some k =>
      rw [hf] at h
      obtain ⟨h1, h2⟩ := fnd_some hf
      have hk := hL.1 k h1
      obtain ⟨q1, q2, q3⟩ := pl_inj hk.2.1 hk.2.2.1 he.2.1 (show c < 81 by have := he.2.2.1; omega) h2
      refine ⟨k, h1, ?_⟩
      simp only [Bool.and_eq_true, decide_eq_true_eq]
      refine ⟨fun z => ?_, q1, q2, h⟩
      rw [z] at q3
      omega
  · rintro ⟨k, hk, h⟩
    simp only [Bool.and_eq_true, decide_eq_true_eq] at h
    obtain ⟨h1, h2, h3, h4⟩ := h
    have hke := hL.1 k hk
    have hle := leC_le hke.2.2.1 he.2.2.1 h4
    have hne : ¬ (ge L k).2.2.1 = (ge L g).2.2.1 := fun z => h1 (hL.2 k g hk hg (by unfold gpl; rw [h2, h3, z]))
    refine ⟨(ge L k).2.2.1, by omega, ?_⟩
    unfold needC
    have := fnd_of hL hk
    unfold gpl at this
    rw [h2, h3] at this
    rw [this]
    exact h4
def sX0_isNeedless : SP := fun As f a Q => match As with
  | [.inr (.inr (0, p, 0)), .inl x] => ∃ L g, GR (f 0 p) (a 0 p) L ∧ WL L ∧ x = nI g ∧ g < L.length ∧ Q (some (.inl (b2i (needB L g)))) f a
  | _ => False
def eX0_isNeedless : En := (tX0_isNeedless, [(87, true, 1, sX0_codeOf)], fdX0, [], 1)
theorem eokX0_isNeedless {g : Gm} (hg : GmOK g) : EnvOK g 1 RX0 cX0_isNeedless (some .boolean) eX0_isNeedless := ⟨okX0_isNeedless, fun _ _ _ _ h => as2_all (P := fun i v => CallOK g 1 RX0 i v.1 v.2.1 v.2.2) (l := eX0_isNeedless.2.1) ⟨callS_ok hg (mX0_codeOf hg) kX0_codeOf mlX0_87 qX0_codeOf ⟨by decide, by decide⟩, trivial⟩ h, fdX0_ok, (fun _ _ h => by cases h), rfl⟩
theorem rX0_isNeedless (av : List AV) (f : FF) (a : AA) (post : PT) (h : sX0_isNeedless av f a post) (X : XT) (hX : Clo eX0_isNeedless post X) : X 0 (padL 6 (ent av)) [] f a := by
  unfold sX0_isNeedless at h
  split at h
  · rename_i p x
    obtain ⟨L, g, hG, hL, rfl, hg, h⟩ := h
    have hlen := WL_len hL
    have he := hL.1 g hg
    have hE := hG.2.2.1 g hg
    rw [← need_eq hL hg] at h
    have cg : (nI g).toNatClampNeg = g := nI_clamp (by omega)
    have c81 := he.2.2.1
    have f3 := he.1
    have t3 := he.2.1
    refine hX [23] 90 _ _ _ _ _ ?_
    refine ⟨inA 729 rfl rfl (by omega) (by decide), inA 729 rfl rfl (by omega) (by decide), (ge L g).2.2.1, c81, by rw [cg]; exact hE.1, ?_⟩
    have e2 : a 0 p 6 (nI g).toNatClampNeg * 81 = nI ((3 * (ge L g).1 + (ge L g).2.1) * 81) := by
      rw [cg, hE.2.1, show (81 : Int32) = nI 81 from rfl, pk_mul]
    dsimp only
    rw [e2]
    refine forUp (Pr := fun c => (∀ k, k < c → needC L g k = false) → ∀ z5, X 23 [some (.inr (.inr (0, p, 0))), some (.inl (nI g)), some (.inl (nI ((3 * (ge L g).1 + (ge L g).2.1) * 81))), some (.inl (nI (ge L g).2.2.1)), some (.inl (nI c)), z5] [] f a) (n := (ge L g).2.2.1) (fun c hc next hall z5 => ?_) (fun hall z5 => ?_) 0 (Nat.zero_le _) (fun k hk => absurd hk (Nat.not_lt_zero k)) none
    · refine hX [23] 90 _ _ _ _ _ ?_
      refine ⟨fun q => absurd q (nI_ge hc (by omega)), fun q => ?_⟩
      have hpl : nI ((3 * (ge L g).1 + (ge L g).2.1) * 81) + nI c = nI (pl (ge L g).1 (ge L g).2.1 c) := nI_add _ _
      have hp := pl_lt f3 t3 (show c < 81 by omega)
      have cp : (nI ((3 * (ge L g).1 + (ge L g).2.1) * 81) + nI c).toNatClampNeg = pl (ge L g).1 (ge L g).2.1 c := by rw [hpl, nI_clamp (by omega)]
      have ef := hG.2.2.2.1 _ hp
      refine ⟨inA 729 hpl rfl hp (by decide), ?_⟩
      dsimp only
      rw [cp, ef]
      have go : needC L g c = false → ∀ z5, X 23 [some (.inr (.inr (0, p, 0))), some (.inl (nI g)), some (.inl (nI ((3 * (ge L g).1 + (ge L g).2.1) * 81))), some (.inl (nI (ge L g).2.2.1)), some (.inl (nI c + 1)), z5] [] f a := by
        intro hc2
        rw [nI_succ] at next
        exact next (fun k hk => by
          rcases (show k < c ∨ k = c by omega) with z | rfl
          · exact hall k z
          · exact hc2)
      refine ⟨fun q2 => ?_, fun q2 => ?_⟩
      · have hn := fI_neg q2 (fun k hk => by have := (fnd_some hk).1; omega)
        exact go (by unfold needC; rw [hn]) _
      · cases hf : fnd L (pl (ge L g).1 (ge L g).2.1 c) with
        | none => rw [hf] at q2; exact absurd (by decide) q2
        | some k =>
          obtain ⟨hk1, hk2⟩ := fnd_some hf
          have hke := hL.1 k hk1
          have hKE := hG.2.2.1 k hk1
          have ck : (fI (some k)).toNatClampNeg = k := nI_clamp (by omega)
          have hnc : needC L g c = leC (ge L k).2.2.1 (ge L g).2.2.1 := by unfold needC; rw [hf]
          have hlc := leC_i hke.2.2.1 c81
          refine ⟨inA 729 rfl rfl (show k < 729 by omega) (by decide), inA 729 rfl rfl (by omega) (by decide), ?_⟩
          dsimp only
          rw [ck, cg, hKE.1, hE.1]
          refine ⟨fun q3 => ?_, fun q3 => ?_⟩
          · exact go (by rw [hnc, hlc]; exact decide_eq_false q3) _
          · exact pT h (anyK_t.mpr ⟨c, hc, by rw [hnc, hlc]; exact decide_eq_true q3⟩)
    · refine hX [23] 90 _ _ _ _ _ ?_
      exact ⟨fun q => pF h (anyK_f hall), fun q => absurd (Int32.le_refl _) q⟩
  · exact h.elim
theorem shX0_isNeedless : ∀ As f a Q, sX0_isNeedless As f a Q → ∃ i r, As = .inr (.inr (0, i, 0)) :: r := by
  intro As f a Q h
  unfold sX0_isNeedless at h
  split at h
  · exact ⟨_, _, rfl⟩
  · exact h.elim
theorem mX0_isNeedless {g : Gm} (hg : GmOK g) : MetC g yX0_isNeedless cX0_isNeedless 6 (some .boolean) 1 sX0_isNeedless := by
  refine MetC_of hg eX0_isNeedless (eokX0_isNeedless hg) (by decide +kernel) (fun av f a post h => ?_) rX0_isNeedless
  unfold sX0_isNeedless at h
  split at h
  · exact Nat.le_of_ble_eq_true rfl
  · exact h.elim
def sX0_idleOnes : SP := fun As f a Q => match As with
  | [.inr (.inr (0, p, 0))] => ∃ L, GR (f 0 p) (a 0 p) L ∧ WL L ∧ Q (some (.inl (nI (cnt (fun g => idleK (ge L g).1 (ge L g).2.1 (ge L g).2.2.1) L.length)))) f a
  | _ => False
def eX0_idleOnes : En := (tX0_idleOnes, [(105, false, 2, sX0_isIdle), (98, true, 1, sX4_bit)], fdX0, [], 0)
theorem eokX0_idleOnes {g : Gm} (hg : GmOK g) : EnvOK g 2 RX0 cX0_idleOnes (some .int) eX0_idleOnes := ⟨okX0_idleOnes, fun _ _ _ _ h => as2_all (P := fun i v => CallOK g 2 RX0 i v.1 v.2.1 v.2.2) (l := eX0_idleOnes.2.1) ⟨callV_ok (t := 0) hg (mX0_isIdle hg) kX0_isIdle mlX0_105 qX0_isIdle.1 qX0_isIdle.2 ⟨by decide, by decide⟩ ⟨_, _, rfl⟩ shX0_isIdle, callN_ok (host := "FallingCalls") hg (mX4_bit hg) kX4_bit (nxX0_98 hg) qX4_bit ⟨by decide, by decide⟩, trivial⟩ h, fdX0_ok, (fun _ _ h => by cases h), rfl⟩
theorem rX0_idleOnes (av : List AV) (f : FF) (a : AA) (post : PT) (h : sX0_idleOnes av f a post) (X : XT) (hX : Clo eX0_idleOnes post X) : X 0 (padL 3 (ent av)) [] f a := by
  unfold sX0_idleOnes at h
  split at h
  · rename_i p
    obtain ⟨L, hG, hL, h⟩ := h
    have hlen := WL_len hL
    refine hX [4] 90 _ _ _ _ _ ?_
    refine forUp (Pr := fun g => X 4 [some (.inr (.inr (0, p, 0))), some (.inl (nI (cnt (fun g => idleK (ge L g).1 (ge L g).2.1 (ge L g).2.2.1) g))), some (.inl (nI g))] [] f a) (n := L.length) (fun g hg next => ?_) ?_ 0 (Nat.zero_le _)
    · have he := hL.1 g hg
      have hE := hG.2.2.1 g hg
      refine hX [4] 90 _ _ _ _ _ ?_
      refine ⟨fun q => ?_, fun q => ?_⟩
      · rw [hG.1] at q
        exact absurd q (nI_ge hg (by omega))
      · refine ⟨g, (ge L g).1, (ge L g).2.1, (ge L g).2.2.1, rfl, by omega, hE.2.1, he.1, he.2.1, hE.1, he.2.2.1, ?_⟩
        rw [cnt_s, nI_succ, ← b2i_b (idleK (ge L g).1 (ge L g).2.1 (ge L g).2.2.1)] at next
        exact next
    · refine hX [4] 90 _ _ _ _ _ ?_
      refine ⟨fun q => h, fun q => ?_⟩
      rw [hG.1] at q
      exact absurd (Int32.le_refl _) q
  · exact h.elim
theorem shX0_idleOnes : ∀ As f a Q, sX0_idleOnes As f a Q → ∃ i r, As = .inr (.inr (0, i, 0)) :: r := by
  intro As f a Q h
  unfold sX0_idleOnes at h
  split at h
  · exact ⟨_, _, rfl⟩
  · exact h.elim
theorem mX0_idleOnes {g : Gm} (hg : GmOK g) : MetC g yX0_idleOnes cX0_idleOnes 3 (some .int) 2 sX0_idleOnes := by
  refine MetC_of hg eX0_idleOnes (eokX0_idleOnes hg) (by decide +kernel) (fun av f a post h => ?_) rX0_idleOnes
  unfold sX0_idleOnes at h
  split at h
  · exact Nat.le_of_ble_eq_true rfl
  · exact h.elim
def sX0_neededOnes : SP := fun As f a Q => match As with
  | [.inr (.inr (0, p, 0))] => ∃ L, GR (f 0 p) (a 0 p) L ∧ WL L ∧ Q (some (.inl (nI (cnt (fun g => !needB L g) L.length)))) f a
  | _ => False
def eX0_neededOnes : En := (tX0_neededOnes, [(108, false, 2, sX0_isNeedless), (98, true, 1, sX4_bit)], fdX0, [], 0)
theorem eokX0_neededOnes {g : Gm} (hg : GmOK g) : EnvOK g 2 RX0 cX0_neededOnes (some .int) eX0_neededOnes := ⟨okX0_neededOnes, fun _ _ _ _ h => as2_all (P := fun i v => CallOK g 2 RX0 i v.1 v.2.1 v.2.2) (l := eX0_neededOnes.2.1) ⟨callV_ok (t := 0) hg (mX0_isNeedless hg) kX0_isNeedless mlX0_108 qX0_isNeedless.1 qX0_isNeedless.2 ⟨by decide, by decide⟩ ⟨_, _, rfl⟩ shX0_isNeedless, callN_ok (host := "FallingCalls") hg (mX4_bit hg) kX4_bit (nxX0_98 hg) qX4_bit ⟨by decide, by decide⟩, trivial⟩ h, fdX0_ok, (fun _ _ h => by cases h), rfl⟩
theorem rX0_neededOnes (av : List AV) (f : FF) (a : AA) (post : PT) (h : sX0_neededOnes av f a post) (X : XT) (hX : Clo eX0_neededOnes post X) : X 0 (padL 3 (ent av)) [] f a := by
  unfold sX0_neededOnes at h
  split at h
  · rename_i p
    obtain ⟨L, hG, hL, h⟩ := h
    have hlen := WL_len hL
    refine hX [4] 90 _ _ _ _ _ ?_
    refine forUp (Pr := fun g => X 4 [some (.inr (.inr (0, p, 0))), some (.inl (nI (cnt (fun g => !needB L g) g))), some (.inl (nI g))] [] f a) (n := L.length) (fun g hg next => ?_) ?_ 0 (Nat.zero_le _)
    · refine hX [4] 90 _ _ _ _ _ ?_
      refine ⟨fun q => ?_, fun q => ?_⟩
      · rw [hG.1] at q
        exact absurd q (nI_ge hg (by omega))
      · rw [cnt_s, nI_succ] at next
        refine ⟨L, g, hG, hL, rfl, hg, fun d => ?_, fun d => ?_⟩
        · rw [b2i_n0.mp d] at next
          exact next
        · rw [b2i_e0.mp d] at next
          exact next
    · refine hX [4] 90 _ _ _ _ _ ?_
      refine ⟨fun q => h, fun q => ?_⟩
      rw [hG.1] at q
      exact absurd (Int32.le_refl _) q
  · exact h.elim
theorem shX0_neededOnes : ∀ As f a Q, sX0_neededOnes As f a Q → ∃ i r, As = .inr (.inr (0, i, 0)) :: r := by
  intro As f a Q h
  unfold sX0_neededOnes at h
  split at h
  · exact ⟨_, _, rfl⟩
  · exact h.elim
theorem mX0_neededOnes {g : Gm} (hg : GmOK g) : MetC g yX0_neededOnes cX0_neededOnes 3 (some .int) 2 sX0_neededOnes := by
  refine MetC_of hg eX0_neededOnes (eokX0_neededOnes hg) (by decide +kernel) (fun av f a post h => ?_) rX0_neededOnes
  unfold sX0_neededOnes at h
  split at h
  · exact Nat.le_of_ble_eq_true rfl
  · exact h.elim
def sX0_neededLoops : SP := fun As f a Q => match As with
  | [.inr (.inr (0, p, 0))] => ∃ L, GR (f 0 p) (a 0 p) L ∧ WL L ∧ Q (some (.inl (nI (cnt (fun g => loopE (ge L g) && !needB L g) L.length)))) f a
  | _ => False
def eX0_neededLoops : En := (tX0_neededLoops, [(94, false, 2, sX0_isLoop), (108, false, 2, sX0_isNeedless), (98, true, 1, sX4_bit)], fdX0, [], 0)
theorem eokX0_neededLoops {g : Gm} (hg : GmOK g) : EnvOK g 3 RX0 cX0_neededLoops (some .int) eX0_neededLoops := ⟨okX0_neededLoops, fun _ _ _ _ h => as2_all (P := fun i v => CallOK g 3 RX0 i v.1 v.2.1 v.2.2) (l := eX0_neededLoops.2.1) ⟨callV_ok (t := 0) hg (mX0_isLoop hg) kX0_isLoop mlX0_94 qX0_isLoop.1 qX0_isLoop.2 ⟨by decide, by decide⟩ ⟨_, _, rfl⟩ shX0_isLoop, callV_ok (t := 0) hg (mX0_isNeedless hg) kX0_isNeedless mlX0_108 qX0_isNeedless.1 qX0_isNeedless.2 ⟨by decide, by decide⟩ ⟨_, _, rfl⟩ shX0_isNeedless, callN_ok (host := "FallingCalls") hg (mX4_bit hg) kX4_bit (nxX0_98 hg) qX4_bit ⟨by decide, by decide⟩, trivial⟩ h, fdX0_ok, (fun _ _ h => by cases h), rfl⟩
theorem rX0_neededLoops (av : List AV) (f : FF) (a : AA) (post : PT) (h : sX0_neededLoops av f a post) (X : XT) (hX : Clo eX0_neededLoops post X) : X 0 (padL 3 (ent av)) [] f a := by
  unfold sX0_neededLoops at h
  split at h
  · rename_i p
    obtain ⟨L, hG, hL, h⟩ := h
    have hlen := WL_len hL
    refine hX [4] 90 _ _ _ _ _ ?_
    refine forUp (Pr := fun g => X 4 [some (.inr (.inr (0, p, 0))), some (.inl (nI (cnt (fun g => loopE (ge L g) && !needB L g) g))), some (.inl (nI g))] [] f a) (n := L.length) (fun g hg next => ?_) ?_ 0 (Nat.zero_le _)
    · have he := hL.1 g hg
      have hE := hG.2.2.1 g hg
      refine hX [4] 90 _ _ _ _ _ ?_
      refine ⟨fun q => ?_, fun q => ?_⟩
      · rw [hG.1] at q
        exact absurd q (nI_ge hg (by omega))
      · rw [cnt_s, nI_succ] at next
        refine ⟨g, (ge L g).1, (ge L g).2.1, (ge L g).2.2.1, rfl, by omega, hE.2.1, he.1, he.2.1, hE.1, he.2.2.1, fun d => ?_, fun d => ?_⟩
        · rw [show loopE (ge L g) = false from b2i_e0.mp d] at next
          exact next
        · rw [show loopE (ge L g) = true from b2i_n0.mp d] at next
          refine ⟨L, g, hG, hL, rfl, hg, fun d => ?_, fun d => ?_⟩
          · rw [b2i_n0.mp d] at next
            exact next
          · rw [b2i_e0.mp d] at next
            exact next
    · refine hX [4] 90 _ _ _ _ _ ?_
      refine ⟨fun q => h, fun q => ?_⟩
      rw [hG.1] at q
      exact absurd (Int32.le_refl _) q
  · exact h.elim
theorem shX0_neededLoops : ∀ As f a Q, sX0_neededLoops As f a Q → ∃ i r, As = .inr (.inr (0, i, 0)) :: r := by
  intro As f a Q h
  unfold sX0_neededLoops at h
  split at h
  · exact ⟨_, _, rfl⟩
  · exact h.elim
theorem mX0_neededLoops {g : Gm} (hg : GmOK g) : MetC g yX0_neededLoops cX0_neededLoops 3 (some .int) 3 sX0_neededLoops := by
  refine MetC_of hg eX0_neededLoops (eokX0_neededLoops hg) (by decide +kernel) (fun av f a post h => ?_) rX0_neededLoops
  unfold sX0_neededLoops at h
  split at h
  · exact Nat.le_of_ble_eq_true rfl
  · exact h.elim
def sX0_sumOfCodes : SP := fun As f a Q => match As with
  | [.inr (.inr (0, p, 0))] => ∃ L, GR (f 0 p) (a 0 p) L ∧ WL L ∧ Q (some (.inl (nI (sumN (fun g => (ge L g).2.2.1) L.length)))) f a
  | _ => False
def eX0_sumOfCodes : En := (tX0_sumOfCodes, [(87, true, 1, sX0_codeOf)], fdX0, [], 0)
theorem eokX0_sumOfCodes {g : Gm} (hg : GmOK g) : EnvOK g 1 RX0 cX0_sumOfCodes (some .int) eX0_sumOfCodes := ⟨okX0_sumOfCodes, fun _ _ _ _ h => as2_all (P := fun i v => CallOK g 1 RX0 i v.1 v.2.1 v.2.2) (l := eX0_sumOfCodes.2.1) ⟨callS_ok hg (mX0_codeOf hg) kX0_codeOf mlX0_87 qX0_codeOf ⟨by decide, by decide⟩, trivial⟩ h, fdX0_ok, (fun _ _ h => by cases h), rfl⟩
theorem rX0_sumOfCodes (av : List AV) (f : FF) (a : AA) (post : PT) (h : sX0_sumOfCodes av f a post) (X : XT) (hX : Clo eX0_sumOfCodes post X) : X 0 (padL 3 (ent av)) [] f a := by
  unfold sX0_sumOfCodes at h
  split at h
  · rename_i p
    obtain ⟨L, hG, hL, h⟩ := h
    have hlen := WL_len hL
    refine hX [4] 90 _ _ _ _ _ ?_
    refine forUp (Pr := fun g => X 4 [some (.inr (.inr (0, p, 0))), some (.inl (nI (sumN (fun g => (ge L g).2.2.1) g))), some (.inl (nI g))] [] f a) (n := L.length) (fun g hg next => ?_) ?_ 0 (Nat.zero_le _)
    · have he := hL.1 g hg
      have hE := hG.2.2.1 g hg
      refine hX [4] 90 _ _ _ _ _ ?_
      refine ⟨fun q => ?_, fun q => ?_⟩
      · rw [hG.1] at q
        exact absurd q (nI_ge hg (by omega))
      · rw [sum_s, nI_succ] at next
        exact ⟨inA 729 rfl rfl (by omega) (by decide), (ge L g).2.2.1, he.2.2.1, by rw [nI_clamp (by omega)]; exact hE.1, next⟩
    · refine hX [4] 90 _ _ _ _ _ ?_
      refine ⟨fun q => h, fun q => ?_⟩
      rw [hG.1] at q
      exact absurd (Int32.le_refl _) q
  · exact h.elim
theorem shX0_sumOfCodes : ∀ As f a Q, sX0_sumOfCodes As f a Q → ∃ i r, As = .inr (.inr (0, i, 0)) :: r := by
  intro As f a Q h
  unfold sX0_sumOfCodes at h
  split at h
  · exact ⟨_, _, rfl⟩
  · exact h.elim
theorem mX0_sumOfCodes {g : Gm} (hg : GmOK g) : MetC g yX0_sumOfCodes cX0_sumOfCodes 3 (some .int) 1 sX0_sumOfCodes := by
  refine MetC_of hg eX0_sumOfCodes (eokX0_sumOfCodes hg) (by decide +kernel) (fun av f a post h => ?_) rX0_sumOfCodes
  unfold sX0_sumOfCodes at h
  split at h
  · exact Nat.le_of_ble_eq_true rfl
  · exact h.elim
