/-! read -/
def rdN (s : Shp) (lane fst : Int32) : Nat → Nat → Pg → (Nat × Nat × Pg) ⊕ Nat
  | 0, i, P => .inl (i, 0, P)
  | d + 1, i, P => if ftI s lane (fst + 3 * nI i) 3 = 0 then (match s with
      | some (_, _, cs) => if takesB P (cs (fst + 3 * nI i).toNatClampNeg) (cs (fst + 3 * nI i + 1).toNatClampNeg) (cs (fst + 3 * nI i + 2).toNatClampNeg) then rdN s lane fst d (i + 1) (setA P (cs (fst + 3 * nI i).toNatClampNeg).toNatClampNeg (cs (fst + 3 * nI i + 1).toNatClampNeg).toNatClampNeg (cs (fst + 3 * nI i + 2).toNatClampNeg).toNatClampNeg) else .inr i
      | none => .inr i) else .inl (i, ftI s lane (fst + 3 * nI i) 3, P)
def okR (k l n : Int32) : Bool := decide (0 ≤ k ∧ k < 4) && (decide (0 ≤ l ∧ l ≤ 2) && decide (0 ≤ n ∧ n ≤ 13))
def anRead (A : Ab) (k l x n : Int32) : Int32 := if okR k l n then (match rdN (aS A k.toNatClampNeg) l x n.toNatClampNeg 0 (aP A) with
  | .inl q => nI q.1
  | .inr i => -20 - nI i) else -1
def nxRead (A : Ab) (k l x n : Int32) : Ab := if okR k l n then (match rdN (aS A k.toNatClampNeg) l x n.toNatClampNeg 0 (aP A) with
  | .inl q => (q.2.2, aT A, aFt A, aI A, aS A, q.2.1)
  | .inr _ => A) else A
theorem ftI_lt (s : Shp) (x y z : Int32) : ftI s x y z < 4 := by
  unfold ftI
  split
  · decide
  · split
    · split <;> decide
    · decide
theorem RepC.trial {f f1 : FF} {a a1 : AA} {A : Ab} (h : RepC f a A) (hF : Fr f a f1 a1 1 1) (hB : AB (a1 1 1)) : RepC f1 a1 A ∧ S5 f a f1 a1 := by
  have e : ∀ t i, ¬ (t = 1 ∧ i = 1) → f1 t i = f t i ∧ a1 t i = a t i := hF
  refine ⟨⟨?_, ?_, ?_, ?_, ?_, ?_, fun p hp => ?_⟩, e 5 0 (by decide)⟩
  · rw [(e 1 0 (by decide)).1, (e 1 0 (by decide)).2]; exact h.1
  · rw [(e 3 0 (by decide)).1, (e 3 0 (by decide)).2]; exact h.2.1
  · intro k hk
    rw [(e 4 0 (by decide)).2, (e 1 (2 + k) (by omega)).1, (e 1 (2 + k) (by omega)).2]
    exact h.2.2.1 k hk
  · intro k hk
    rw [(e 2 k (by omega)).1, (e 2 k (by omega)).2]
    exact h.2.2.2.1 k hk
  · rw [(e 4 0 (by decide)).1]; exact h.2.2.2.2.1
  · unfold stC
    rw [(e 4 0 (by decide)).1, (e 0 0 (by decide)).1, (e 0 0 (by decide)).2]
    exact h.2.2.2.2.2.1
  · by_cases hp1 : p = 1
    · rw [hp1]; exact hB
    · rw [(e 1 p (fun q => hp1 q.2)).2]; exact h.2.2.2.2.2.2 p hp
def sX4_read : SP := fun As f a Q => match As with
  | [.inr (.inr (4, 0, 0)), .inl k, .inl l, .inl x, .inl n] => ∃ A, RepC f a A ∧ OKA A ∧ ∀ f' a', RepC f' a' (nxRead A k l x n) → S5 f a f' a' → Q (some (.inl (anRead A k l x n))) f' a'
  | _ => False
def eX4_read : En := (tX4_read, [(248, true, 1, sX4_isSheet), (251, true, 1, sX4_isLane), (73, false, 2, sX1_copy), (260, false, 4, sX2_faultAt), (210, false, 4, sX1_takes), (214, false, 4, sX1_putArgument)], fdX4, [], 0)
theorem eokX4_read {g : Gm} (hg : GmOK g) : EnvOK g 3 RX4 cX4_read (some .int) eX4_read := ⟨okX4_read, fun _ _ _ _ h => as2_all (P := fun i v => CallOK g 3 RX4 i v.1 v.2.1 v.2.2) (l := eX4_read.2.1) ⟨callS_ok hg (mX4_isSheet hg) kX4_isSheet mlX4_248 qX4_isSheet ⟨by decide, by decide⟩, callS_ok hg (mX4_isLane hg) kX4_isLane mlX4_251 qX4_isLane ⟨by decide, by decide⟩, callV_ok (t := 1) hg (mX1_copy hg) kX1_copy mlX4_73 qX1_copy.1 qX1_copy.2 ⟨by decide, by decide⟩ ⟨_, _, rfl⟩ shX1_copy, callV_ok (t := 2) hg (mX2_faultAt hg) kX2_faultAt mlX4_260 qX2_faultAt.1 qX2_faultAt.2 ⟨by decide, by decide⟩ ⟨_, _, rfl⟩ shX2_faultAt, callV_ok (t := 1) hg (mX1_takes hg) kX1_takes mlX4_210 qX1_takes.1 qX1_takes.2 ⟨by decide, by decide⟩ ⟨_, _, rfl⟩ shX1_takes, callV_ok (t := 1) hg (mX1_putArgument hg) kX1_putArgument mlX4_214 qX1_putArgument.1 qX1_putArgument.2 ⟨by decide, by decide⟩ ⟨_, _, rfl⟩ shX1_putArgument, trivial⟩ h, fdX4_ok, (fun _ _ h => by cases h), rfl⟩
theorem ft3 {s : Shp} {l x : Int32} (h : ftI s l x 3 = 0) (hs : ∀ l n cs, s = some (l, n, cs) → n ≤ 40) : ∃ l n cs m, s = some (l, n, cs) ∧ x = nI m ∧ m + 3 ≤ n ∧ n ≤ 40 := by
  cases s with
  | none => cases h
  | some q =>
    obtain ⟨l', n, cs⟩ := q
    have hn := hs l' n cs rfl
    unfold ftI at h
    dsimp only at h
    split at h
    · split at h
      · cases h
      · rename_i hh
        obtain ⟨m, hm, rfl⟩ := ge0 (x := x) (fun z => hh (Or.inl z))
        have : nI n - 3 < nI m ↔ n < m + 3 := sub_lt (n := n) (by omega) hm 3 (by decide)
        exact ⟨l', n, cs, m, rfl, rfl, by
          have h4 : ¬ n < m + 3 := fun z => hh (Or.inr (this.mpr z))
          omega, hn⟩
    · cases h
theorem rX4_read (av : List AV) (f : FF) (a : AA) (post : PT) (h : sX4_read av f a post) (X : XT) (hX : Clo eX4_read post X) : X 0 (padL 12 (ent av)) [] f a := by
  unfold sX4_read at h
  split at h
  · rename_i k l x n
    obtain ⟨A, hA, hO, h⟩ := h
    unfold anRead nxRead at h
    refine hX [53] 90 _ _ _ _ _ ?_
    have bad : okR k l n = false → post (some (.inl (-1))) f a := by
      intro hb
      simp only [hb, Bool.false_eq_true, if_false] at h
      exact h f a hA (S5.rf f a)
    refine ⟨fun d => ?_, fun d => ⟨fun d2 => ?_, fun d2 => ⟨fun d3 => ?_, fun d3 => ⟨fun d4 => ?_, fun d4 => ?_⟩⟩⟩⟩
    · exact bad (by simp only [okR, b2i_e0.mp d, Bool.false_and])
    · exact bad (by simp only [okR, b2i_e0.mp d2, Bool.false_and, Bool.and_false])
    · exact bad (by simp only [okR, decide_eq_false (fun (z : 0 ≤ n ∧ n ≤ 13) => absurd z.1 (Int32.not_le.mpr d3)), Bool.and_false])
    · have d := b2i_n0.mp d
      have d2 := b2i_n0.mp d2
      have hok : okR k l n = true := by simp only [okR, d, d2, decide_eq_true (And.intro (Int32.not_lt.mp d3) d4), Bool.and_self]
      simp only [hok, if_true] at h
      obtain ⟨j, rfl, hj⟩ := rng (M := 4) (by decide) (of_decide_eq_true d).1 (of_decide_eq_true d).2
      obtain ⟨m, hm, rfl⟩ := ge0 d3
      have hm13 : m ≤ 13 := (nI_leI (b := 13) hm (by decide)).mp d4
      have cj : (nI j).toNatClampNeg = j := nI_clamp (by omega)
      rw [cj, nI_clamp hm] at h
      have hs := hA.2.2.2.1 j hj
      have hsl := hO.2.2.2.2.1 j hj
      have ej : (raf 6).2 + (nI j).toNatClampNeg = j := by rw [cj]; exact Nat.zero_add j
      refine ⟨inA 4 rfl rfl hj (by decide), (by decide), fun f1 a1 hF1 hR1 hB1 => ?_⟩
      have hB1 := hB1 (hA.2.2.2.2.2.2 0 (by decide))
      have hR1 := hR1 (aP A) hO.1 hA.1
      have ks : (.inr (.inr ((raf 6).1, (raf 6).2 + (nI j).toNatClampNeg, 0)) : AV) = .inr (.inr (2, j, 0)) := by rw [ej]; rfl
      have k162 : ∀ i ft P f2 a2 z8 z9 z10 z11, AB (a2 1 1) → Fr f a f2 a2 1 1 → RC (f2 1 1) (a2 1 1) P → WF P → ft < 4 → post (some (.inl (nI i))) = post (some (.inl (nI i))) → (∀ f' a', RepC f' a' (P, aT A, aFt A, aI A, aS A, ft) → S5 f a f' a' → post (some (.inl (nI i))) f' a') → X 162 [some (.inr (.inr (4, 0, 0))), some (.inl (nI j)), some (.inl l), some (.inl x), some (.inl (nI m)), some (.inr (.inr (2, j, 0))), some (.inl (nI ft)), some (.inl (nI i)), z8, z9, z10, z11] [] f2 a2 := by
        intro i ft P f2 a2 z8 z9 z10 z11 hB hF hR hW hft _ hp
        refine hX [] 90 _ _ _ _ _ ?_
        refine ⟨(by decide), fun f3 a3 hF3 hR3 hB3 => ⟨Or.inr rfl, ?_⟩⟩
        have hR3 := hR3 P hW hR
        have T := hA.trial hF hB
        have K := T.1.told hF3 hR3 (hB3 hB)
        refine hp _ _ ⟨?_, ?_, ?_, ?_, ?_, ?_, K.1.2.2.2.2.2.2⟩ ?_
        · rw [upf_o _ _ (by decide)]; exact K.1.1
        · rw [upf_o _ _ (by decide)]; exact K.1.2.1
        · intro q hq
          rw [upf_o _ _ (by omega)]
          exact K.1.2.2.1 q hq
        · intro q hq
          rw [upf_o _ _ (by omega)]
          exact K.1.2.2.2.1 q hq
        · rw [upf_s, if_pos rfl]
        · refine Or.inl ?_
          rw [upf_s, if_neg (by decide), upf_s, if_pos rfl]
        · have := T.2.tr K.2
          exact ⟨by rw [upf_o _ _ (by decide)]; exact this.1, this.2⟩
      have key : ∀ (d i : Nat) (P : Pg) (f2 : FF) (a2 : AA) (z6 : Int32) (z8 z9 z10 z11 : Option AV), AB (a2 1 1) → i + d = m → Fr f a f2 a2 1 1 → RC (f2 1 1) (a2 1 1) P → WF P → (z6 = 0) → (∀ f' a', RepC f' a' (match rdN (aS A j) l x d i P with
            | .inl q => (q.2.2, aT A, aFt A, aI A, aS A, q.2.1)
            | .inr _ => A) → S5 f a f' a' → post (some (.inl (match rdN (aS A j) l x d i P with
            | .inl q => nI q.1
            | .inr i => -20 - nI i))) f' a') → X 53 [some (.inr (.inr (4, 0, 0))), some (.inl (nI j)), some (.inl l), some (.inl x), some (.inl (nI m)), some (.inr (.inr (2, j, 0))), some (.inl z6), some (.inl (nI i)), z8, z9, z10, z11] [] f2 a2 := by
        intro d
        induction d with
        | zero =>
          intro i P f2 a2 z6 z8 z9 z10 z11 hB hid hF hR hW hz hp
          subst hz
          refine hX [162] 90 _ _ _ _ _ ?_
          refine ⟨fun q => ?_, fun q => absurd (nI_le (by omega) (by omega)) q⟩
          exact k162 i 0 P f2 a2 z8 z9 z10 z11 hB hF hR hW (by decide) rfl hp
        | succ d ih =>
          intro i P f2 a2 z6 z8 z9 z10 z11 hB hid hF hR hW hz hp
          subst hz
          have eS := hF 2 j (by omega)
          have e4 := hF 4 0 (by omega)
          refine hX [53, 162] 90 _ _ _ _ _ ?_
          refine ⟨fun q => absurd q (nI_ge (by omega) (by omega)), fun q => ?_⟩
          refine ⟨aS A j, by rw [eS.1, eS.2]; exact hs, fun l n cs q => (hsl l n cs q).1, ?_⟩
          have hft := ftI_lt (aS A j) l (x + 3 * nI i) 3
          refine ⟨fun q2 => ?_, fun q2 => ?_⟩
          · have q2 : ftI (aS A j) l (x + 3 * nI i) 3 = 0 := (i_eq (b := 0) rfl rfl (show ftI (aS A j) l (x + 3 * nI i) 3 < 2 ^ 31 by omega) (by decide)).mp q2
            obtain ⟨l', n, cs, g, hsh, hg, hgn, hn⟩ := ft3 q2 (fun l n cs q => (hsl l n cs q).2)
            rw [hsh] at hs
            have eg1 : nI g + 1 = nI (g + 1) := (nI_succ g).symm
            have eg2 : nI g + 2 = nI (g + 2) := nI_add g 2
            have e0 : ∀ y : Int32, y = x + 3 * nI i → y.toNatClampNeg = g := fun y hy => by rw [hy, hg, nI_clamp (by omega)]
            refine ⟨inA 40 hg rfl (by omega) (by decide), inA 40 (by show x + 3 * nI i + 1 = _; rw [hg, eg1]) rfl (by omega) (by decide), inA 40 (by show x + 3 * nI i + 2 = _; rw [hg, eg2]) rfl (by omega) (by decide), ?_⟩
            have c0 : a2 2 j 0 (x + 3 * nI i).toNatClampNeg = cs (x + 3 * nI i).toNatClampNeg := by rw [eS.2, hg, nI_clamp (by omega)]; exact hs.2.2 g (by omega)
            have c1 : a2 2 j 0 (x + 3 * nI i + 1).toNatClampNeg = cs (x + 3 * nI i + 1).toNatClampNeg := by rw [eS.2, hg, eg1, nI_clamp (by omega)]; exact hs.2.2 _ (by omega)
            have c2 : a2 2 j 0 (x + 3 * nI i + 2).toNatClampNeg = cs (x + 3 * nI i + 2).toNatClampNeg := by rw [eS.2, hg, eg2, nI_clamp (by omega)]; exact hs.2.2 _ (by omega)
            refine ⟨P, hR, hW, ?_⟩
            dsimp only
            rw [c0, c1, c2]
            have er : rdN (aS A j) l x (d + 1) i P = if takesB P (cs (x + 3 * nI i).toNatClampNeg) (cs (x + 3 * nI i + 1).toNatClampNeg) (cs (x + 3 * nI i + 2).toNatClampNeg) then rdN (aS A j) l x d (i + 1) (setA P (cs (x + 3 * nI i).toNatClampNeg).toNatClampNeg (cs (x + 3 * nI i + 1).toNatClampNeg).toNatClampNeg (cs (x + 3 * nI i + 2).toNatClampNeg).toNatClampNeg) else .inr i := by
              rw [rdN.eq_def]
              dsimp only
              rw [if_pos q2, hsh]
            rw [er] at hp
            refine ⟨fun q3 => ?_, fun q3 => ?_⟩
            · have q3 := b2i_n0.mp q3
              simp only [q3, if_true] at hp
              obtain ⟨n1, m1, y1, f1e, hn1, f2e, hm1, f3e, hy1, hok1⟩ := takes_spec hW q3
              have h12 := hW.l12
              have hat := hW.ar_to hn1
              rw [f1e, f2e, f3e, nI_clamp (show n1 < 2 ^ 31 by omega), nI_clamp (show m1 < 2 ^ 31 by omega), nI_clamp (show y1 < 2 ^ 31 by omega)] at hp
              rw [f1e, f2e, f3e]
              refine ⟨n1, m1, rfl, rfl, by omega, ?_⟩
              have n2 := ih (i + 1) (setA P n1 m1 y1) f2 (upa a2 1 1 3 (2 * n1 + m1) (nI y1)) (nI (ftI (aS A j) l (x + 3 * nI i) 3)) (some (.inl (x + 3 * nI i))) (some (.inl (nI n1))) (some (.inl (nI m1))) (some (.inl (nI y1))) (fun w hw => by rw [upa_s, if_neg (by decide)]; exact hB w hw) (by omega) (hF.ua 3 _ _) (hR.stA hn1 (by omega)) (hW.stA hn1 hm1 hok1) (by rw [q2]; rfl) hp
              rw [nI_succ] at n2
              exact n2
            · have q3 := b2i_e0.mp q3
              simp only [q3, Bool.false_eq_true, if_false] at hp
              have T := hA.trial hF hB
              exact hp f2 a2 T.1 T.2
          · have q2 : ¬ ftI (aS A j) l (x + 3 * nI i) 3 = 0 := fun z => q2 (by rw [z]; rfl)
            have er : rdN (aS A j) l x (d + 1) i P = .inl (i, ftI (aS A j) l (x + 3 * nI i) 3, P) := by
              rw [rdN.eq_def]
              dsimp only
              rw [if_neg q2]
            rw [er] at hp
            exact k162 i _ P f2 a2 _ z9 z10 z11 hB hF hR hW hft rfl hp
      have K := key m 0 (aP A) f1 a1 0 none none none none hB1 (by omega) hF1 hR1 hO.1 rfl h
      rw [← ks] at K
      exact K
    · exact bad (by simp only [okR, decide_eq_false (fun (z : 0 ≤ n ∧ n ≤ 13) => d4 z.2), Bool.and_false])
  · exact h.elim
theorem shX4_read : ∀ As f a Q, sX4_read As f a Q → ∃ i r, As = .inr (.inr (4, i, 0)) :: r := by
  intro As f a Q h
  unfold sX4_read at h
  split at h
  · exact ⟨_, _, rfl⟩
  · exact h.elim
theorem mX4_read {g : Gm} (hg : GmOK g) : MetC g yX4_read cX4_read 12 (some .int) 3 sX4_read := by
  refine MetC_of hg eX4_read (eokX4_read hg) (by decide +kernel) (fun av f a post h => ?_) rX4_read
  unfold sX4_read at h
  split at h
  · exact Nat.le_of_ble_eq_true rfl
  · exact h.elim
