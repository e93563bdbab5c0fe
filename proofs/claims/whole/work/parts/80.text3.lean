/-! the reference: the whole text -/
def sX5_text : SP := fun As f a Q => match As with
  | [.inr (.inr (5, 0, 0))] => ∃ A, RepM f a A ∧ OKA A ∧ ∀ f' a', RepM f' a' (nxText A) → S4 f a f' a' → Q (some (.inl (anText A))) f' a'
  | _ => False
def eX5_text : En := (tX5_text, [(115, false, 1, sX5_reads), (136, false, 1, sX5_readLine)], fdX5, [], 0)
theorem eokX5_text {g : Gm} (hg : GmOK g) : EnvOK g 6 RX5 cX5_text (some .int) eX5_text := ⟨okX5_text, fun _ _ _ _ h => as2_all (P := fun i v => CallOK g 6 RX5 i v.1 v.2.1 v.2.2) (l := eX5_text.2.1) ⟨callV_ok (t := 5) hg (mX5_reads hg) kX5_reads mlX5_115 qX5_reads.1 qX5_reads.2 ⟨by decide, by decide⟩ ⟨_, _, rfl⟩ shX5_reads, callV_ok (t := 5) hg (mX5_readLine hg) kX5_readLine mlX5_136 qX5_readLine.1 qX5_readLine.2 ⟨by decide, by decide⟩ ⟨_, _, rfl⟩ shX5_readLine, trivial⟩ h, fdX5_ok, (fun _ _ h => by cases h), rfl⟩
theorem nar_z0 : vp_nar .boolean 0 = 0 := by decide +kernel
theorem FL.s4 {f f' : FF} {a a' : AA} (h : FL f f') (ha : S4 f a f a') : S4 f a f' a' := fun t i ht => ⟨funext fun k => h t i k (fun q => ht q.1), (ha t i ht).2⟩
theorem WF_nil : WF ([], []) := ⟨Nat.zero_le _, Nat.zero_le _, fun i hi => absurd hi (Nat.not_lt_zero i), fun c hc => absurd hc (Nat.not_lt_zero c)⟩
theorem sr0 {T : List Nat} {σ : Lx} : srN T σ = 0 ↔ σ.2.2.2 = 0 := by
  unfold srN
  split
  · rename_i z
    rw [z]
    refine ⟨fun y => absurd y ?_, fun y => absurd y (by decide)⟩
    unfold sgN
    repeat' split
    all_goals decide
  · exact Iff.rfl
theorem rX5_text (av : List AV) (f : FF) (a : AA) (post : PT) (h : sX5_text av f a post) (X : XT) (hX : Clo eX5_text post X) : X 0 (padL 3 (ent av)) [] f a := by
  unfold sX5_text at h
  split at h
  · obtain ⟨A, hA, hO, h⟩ := h
    unfold anText nxText at h
    obtain ⟨T, eT⟩ : ∃ T, T = aT A := ⟨_, rfl⟩
    have hTM : TM f a T := by
      rw [eT]
      exact ⟨hA.2.1.1, hA.2.1.2.1, hO.2.1⟩
    rw [← eT] at h
    obtain ⟨R0, eR⟩ : ∃ R0, R0 = telN T 16 (txS T) ([], []) := ⟨_, rfl⟩
    obtain ⟨N0, eN⟩ : ∃ N0, N0 = linN T 16 (txS T) ([], []) := ⟨_, rfl⟩
    unfold txR at h
    rw [← eR, ← eN] at h
    have fin : ∀ (m : Nat) (σ : Lx) (P : Pg) (f1 : FF) (a1 : AA) (z : Option AV), FL f f1 → FA 3 a a1 → LMT f1 a1 T σ → (σ.1 = 0 → RM (a1 5 0 3) P ∧ WF P) → R0 = (σ, P) → N0 = m → X 61 [some (.inr (.inr (5, 0, 0))), some (.inl (nI m)), z] [] f1 a1 := by
      intro m σ P f1 a1 z hF hA1 hM hD er en
      rw [er, en] at h
      have hS1 : S4 f a f1 a1 := hF.s4 (hA1.s4 f)
      refine hX [83] 40 _ _ _ _ _ ?_
      refine ⟨fun q => ?_, fun q => ?_⟩
      · have q := hM.zl.mp q
        obtain ⟨hR, hW⟩ := hD q
        simp only [q, if_true] at h
        have e10 : f1 5 0 10 = nI 0 := by rw [hM.2.1.1, q]
        have loop : ∀ c, c ≤ 101 → ∀ a2, FA 0 a1 a2 → (∀ j, j < c → a2 5 0 0 j = a1 5 0 3 j) → X 83 [some (.inr (.inr (5, 0, 0))), some (.inl (nI m)), some (.inl (nI c))] [] (upf f1 5 0 5 0) a2 := by
          refine forUp (Pr := fun c => ∀ a2, FA 0 a1 a2 → (∀ j, j < c → a2 5 0 0 j = a1 5 0 3 j) → X 83 [some (.inr (.inr (5, 0, 0))), some (.inl (nI m)), some (.inl (nI c))] [] (upf f1 5 0 5 0) a2) ?_ ?_
          · intro c hc ih a2 hF2 hz
            have ec : (nI c).toNatClampNeg = c := nI_clamp (by omega)
            refine hX [83] 40 _ _ _ _ _ ?_
            refine ⟨fun q => absurd ((i_le (show (101 : Int32) = nI 101 from rfl) rfl (by decide) (by omega)).mp q) (by omega), fun _ => ⟨inA 101 rfl rfl hc (by decide), inA 101 rfl rfl hc (by decide), ?_⟩⟩
            have K := ih (upa a2 5 0 0 (nI c).toNatClampNeg (a2 5 0 3 (nI c).toNatClampNeg)) (hF2.ua _ _) (fun j hj => by
              rw [upa_s, if_pos rfl, upd_s, ec]
              by_cases z : j = c
              · rw [if_pos z, hF2.row (by decide), z]
              · rw [if_neg z]
                exact hz j (by omega))
            rw [← nI_1] at K
            exact K
          · intro a2 hF2 hz
            refine hX [] 40 _ _ _ _ _ ?_
            refine ⟨fun _ => ⟨inA 2 (n := 0) rfl rfl (by decide) (by decide), inA 2 (n := 1) rfl rfl (by decide) (by decide), ?_⟩, fun q => absurd (by decide) q⟩
            have hF3 : FA 2 a2 (upa (upa a2 5 0 2 0 0) 5 0 2 1 0) := ((FA.rf 2 a2).ua _ _).ua _ _
            have row : ∀ k, k ≠ 0 → k ≠ 2 → k ≠ 3 → upa (upa a2 5 0 2 0 0) 5 0 2 1 0 5 0 k = a 5 0 k := fun k h0 h2 h3 => by rw [hF3.row h2, hF2.row h0, hA1.row h3]
            have hR2 : RM (upa (upa a2 5 0 2 0 0) 5 0 2 1 0 5 0 0) P := by
              rw [hF3.row (by decide)]
              exact hR.cg hW (fun j hj => hz j hj)
            refine pIV (h (upf f1 5 0 5 0) (upa (upa a2 5 0 2 0 0) 5 0 2 1 0) ⟨hR2, ⟨rfl, fun i hi => absurd hi (Nat.not_lt_zero i), e10⟩, ?_, ?_, ?_, ?_⟩ ?_) rfl rfl ?_
            · intro k hk
              refine ⟨?_, fun P hP => by cases hP⟩
              show _ = (0 : Int32)
              rw [upa_s, if_pos rfl, upd_s]
              by_cases z1 : k = 1
              · rw [if_pos z1]
              · rw [if_neg z1, upa_s, if_pos rfl, upd_s, if_pos (by omega)]
            · intro k hk
              have := hA.2.2.2.1 k hk
              unfold shM at this ⊢
              rw [row 23 (by decide) (by decide) (by decide), row 24 (by decide) (by decide) (by decide), row 25 (by decide) (by decide) (by decide)]
              exact this
            · rw [upf_s, if_neg (by decide), hF.at (by decide)]
              exact hA.2.2.2.2.1
            · rw [upf_s, if_neg (by decide), hF.at (by decide)]
              exact hA.2.2.2.2.2
            · exact ((hS1.tr (hF2.s4 f1)).tr (hF3.s4 f1)).uf _ _
            · show _ = upa (upa a2 5 0 2 0 (vp_nar .boolean 0)) 5 0 2 1 (vp_nar .boolean 0)
              rw [nar_z0]
        exact loop 0 (Nat.zero_le _) a1 (FA.rf 0 a1) (fun j hj => absurd hj (Nat.not_lt_zero j))
      · have q : σ.1 ≠ 0 := fun z => q (hM.zl.mpr z)
        simp only [if_neg q] at h
        have e11 := hM.2.1.2.2.1 q
        have K := hA.tp (f' := upf f1 5 0 5 0) (a' := a1) (T := []) (ft := σ.1) (by rw [upf_s, if_pos rfl]; rfl) (by rw [upf_s, if_neg (by decide)]; exact hM.2.1.1) (by rw [upf_s, if_neg (by decide), hF.at (by decide)]) (by rw [upf_s, if_neg (by decide), hF.at (by decide)]) (fun k hk => hA1.row (by
          have : ∀ k, k ∈ [0, 1, 2, 23, 24, 25] → k ≠ 3 := by decide
          exact this k hk)) (fun i hi => absurd hi (Nat.not_lt_zero i))
        refine pI (h _ _ K (hS1.uf _ _)) ?_
        show _ = -10 - f1 5 0 11
        rw [e11]
    have key : ∀ (d m : Nat) (σ : Lx) (P : Pg) (f1 : FF) (a1 : AA) (z : Option AV), m + d = 16 → FL f f1 → FA 3 a a1 → LMT f1 a1 T σ → (σ.1 = 0 → RM (a1 5 0 3) P ∧ WF P ∧ P.1.length + P.2.length = m) → R0 = telN T d σ P → N0 = m + linN T d σ P → X 37 [some (.inr (.inr (5, 0, 0))), some (.inl (nI m)), z] [] f1 a1 := by
      intro d
      induction d with
      | zero =>
        intro m σ P f1 a1 z hm hF hA1 hM hD et el
        have F := fin m σ P f1 a1 z hF hA1 hM (fun y => ⟨(hD y).1, (hD y).2.1⟩) et el
        have q : σ.1 ≠ 0 := fun y => by
          obtain ⟨-, hW, hc⟩ := hD y
          have := hW.l3
          have := hW.l12
          omega
        refine hX [61] 40 _ _ _ _ _ ?_
        exact ⟨fun _ => F, fun y => absurd (hM.z.mp y) q⟩
      | succ d ih =>
        intro m σ P f1 a1 z hm hF hA1 hM hD et el
        have et : R0 = if σ.2.2.2 = 0 then (σ, P) else telN T d (lnN T σ P).1 (lnN T σ P).2 := et
        have el : N0 = m + if σ.2.2.2 = 0 then 0 else 1 + linN T d (lnN T σ P).1 (lnN T σ P).2 := el
        have hD2 : σ.1 = 0 → RM (a1 5 0 3) P ∧ WF P := fun y => ⟨(hD y).1, (hD y).2.1⟩
        refine hX [37, 61] 40 _ _ _ _ _ ?_
        refine ⟨fun q => ?_, fun q => ?_⟩
        · have q : σ.1 ≠ 0 := fun y => q (hM.z.mpr y)
          have k0 := hM.2.2.k0 q
          rw [if_pos k0] at et el
          exact fin m σ P f1 a1 z hF hA1 hM hD2 et el
        · have q := hM.z.mp q
          have cs := (hM.s q (n := 0) (by decide) (x := 0) rfl).trans sr0
          obtain ⟨hR, hW, hc⟩ := hD q
          refine ⟨fun q2 => ?_, fun q2 => ?_⟩
          · rw [if_pos (cs.mp q2)] at et el
            exact fin m σ P f1 a1 z hF hA1 hM hD2 et el
          · have q2 : ¬ σ.2.2.2 = 0 := fun y => q2 (cs.mpr y)
            rw [if_neg q2] at et el
            refine ⟨T, σ, P, hM, q, hR, hW, fun f2 a2 hF2 hA2 hM2 hRM => ?_⟩
            have K := ih (m + 1) (lnN T σ P).1 (lnN T σ P).2 f2 a2 z (by omega) (hF.tr hF2) (hA1.tr hA2) hM2 (fun y => by
              have := lnN_ok hM.2.2 hW y
              exact ⟨hRM y, this.1, by omega⟩) et (by omega)
            rw [← nI_1] at K
            exact K
    have hF0 : FL f (upf (upf f 5 0 10 0) 5 0 6 0) := ((FL.rf f).up 10 (by decide) _).up 6 (by decide) _
    have zero : ∀ c, c ≤ 101 → ∀ a1, FA 3 a a1 → (∀ j, j < c → a1 5 0 3 j = 0) → X 14 [some (.inr (.inr (5, 0, 0))), some (.inl 0), some (.inl (nI c))] [] (upf (upf f 5 0 10 0) 5 0 6 0) a1 := by
      refine forUp (Pr := fun c => ∀ a1, FA 3 a a1 → (∀ j, j < c → a1 5 0 3 j = 0) → X 14 [some (.inr (.inr (5, 0, 0))), some (.inl 0), some (.inl (nI c))] [] (upf (upf f 5 0 10 0) 5 0 6 0) a1) ?_ ?_
      · intro c hc ih a1 hF hz
        have ec : (nI c).toNatClampNeg = c := nI_clamp (by omega)
        refine hX [14] 40 _ _ _ _ _ ?_
        refine ⟨fun q => absurd ((i_le (show (101 : Int32) = nI 101 from rfl) rfl (by decide) (by omega)).mp q) (by omega), fun _ => ⟨inA 101 rfl rfl hc (by decide), ?_⟩⟩
        have K := ih (upa a1 5 0 3 (nI c).toNatClampNeg 0) (hF.ua _ _) (fun j hj => by
          rw [upa_s, if_pos rfl, upd_s, ec]
          by_cases z : j = c
          · rw [if_pos z]
          · rw [if_neg z]
            exact hz j (by omega))
        rw [← nI_1] at K
        exact K
      · intro a1 hF hz
        have hT1 : TM (upf (upf f 5 0 10 0) 5 0 6 0) a1 T := ⟨by rw [hF0.at (by decide)]; exact hTM.1, by rw [hF.r4]; exact hTM.2.1, hTM.2.2⟩
        have l0 : LOK0 T (0, 0, 0, 0) := ⟨by show 0 < 10; decide, Nat.zero_le _⟩
        refine hX [37] 40 _ _ _ _ _ ?_
        refine ⟨fun _ => ?_, fun q => absurd (by decide) q⟩
        refine ⟨T, (0, 0, 0, 0), hT1, rfl, l0, fun z => absurd rfl z, fun _ => rfl, fun f2 hF2 hM2 => ?_⟩
        have hL := l0.step rfl
        refine key 16 0 (txS T) ([], []) f2 a1 _ (by omega) (hF0.tr hF2) hF ⟨hT1.fl hF2, hM2, hL⟩ (fun _ => ⟨⟨hz 3 (by decide), hz 100 (by decide), fun i hi => absurd hi (Nat.not_lt_zero i), fun c hc => absurd hc (Nat.not_lt_zero c)⟩, WF_nil, rfl⟩) eR (by omega)
    refine hX [14] 40 _ _ _ _ _ ?_
    exact zero 0 (Nat.zero_le _) a (FA.rf 3 a) (fun j hj => absurd hj (Nat.not_lt_zero j))
  · exact h.elim
theorem shX5_text : ∀ As f a Q, sX5_text As f a Q → ∃ i r, As = .inr (.inr (5, i, 0)) :: r := by
  intro As f a Q h
  unfold sX5_text at h
  split at h
  · exact ⟨_, _, rfl⟩
  · exact h.elim
theorem mX5_text {g : Gm} (hg : GmOK g) : MetC g yX5_text cX5_text 3 (some .int) 6 sX5_text := by
  refine MetC_of hg eX5_text (eokX5_text hg) (by decide +kernel) (fun av f a post h => ?_) rX5_text
  unfold sX5_text at h
  split at h
  · exact Nat.le_of_ble_eq_true rfl
  · exact h.elim
