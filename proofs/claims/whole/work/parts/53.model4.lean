/-! the reference finds all graphs, but for a call left out -/
def actO (om : Option Nat) (c : Nat) : Bool := !decide (om = some c)
def cloM (P : Pg) (om : Option Nat) : List Gr := cloG (kf P) (actO om) P.2.length
theorem om_eq {om : Option Nat} (hb : ∀ c, om = some c → c < 12) {c : Nat} (hc : c < 12) : nI c = fM om ↔ actO om c = false := by
  unfold actO
  cases om with
  | none =>
    refine ⟨fun z => ?_, fun z => by simp at z⟩
    exact absurd ((fM_none (o := some c) (fun g hg => by cases hg; omega)).mp z) (by intro y; cases y)
  | some d =>
    have hd := hb d rfl
    show nI c = nI d ↔ _
    rw [nI_eq (by omega) (by omega)]
    simp
    exact eq_comm
def sX5_findGraphs : SP := fun As f a Q => match As with
  | [.inr (.inr (5, 0, 0))] => ∃ P om, RM (a 5 0 0) P ∧ WF P ∧ f 5 0 20 = fM om ∧ (∀ c, om = some c → c < 12) ∧ ∀ f' a', FG f a f' a' → GM (f' 5 0) (a' 5 0) (cloM P om) → Q none f' a'
  | _ => False
def eX5_findGraphs : En := (tX5_findGraphs, [(139, false, 3, sX5_of), (161, false, 2, sX5_codeOf), (164, false, 6, sX5_comes), (168, true, 2, sX5_composed)], fdX5, [], 2)
theorem eokX5_findGraphs {g : Gm} (hg : GmOK g) : EnvOK g 4 RX5 cX5_findGraphs none eX5_findGraphs := ⟨okX5_findGraphs, fun _ _ _ _ h => as2_all (P := fun i v => CallOK g 4 RX5 i v.1 v.2.1 v.2.2) (l := eX5_findGraphs.2.1) ⟨callV_ok (t := 5) hg (mX5_of hg) kX5_of mlX5_139 qX5_of.1 qX5_of.2 ⟨by decide, by decide⟩ ⟨_, _, rfl⟩ shX5_of, callV_ok (t := 5) hg (mX5_codeOf hg) kX5_codeOf mlX5_161 qX5_codeOf.1 qX5_codeOf.2 ⟨by decide, by decide⟩ ⟨_, _, rfl⟩ shX5_codeOf, callV_ok (t := 5) hg (mX5_comes hg) kX5_comes mlX5_164 qX5_comes.1 qX5_comes.2 ⟨by decide, by decide⟩ ⟨_, _, rfl⟩ shX5_comes, callS_ok hg (mX5_composed hg) kX5_composed mlX5_168 qX5_composed ⟨by decide, by decide⟩, trivial⟩ h, fdX5_ok, (fun _ _ h => by cases h), rfl⟩
theorem rX5_findGraphs (av : List AV) (f : FF) (a : AA) (post : PT) (h : sX5_findGraphs av f a post) (X : XT) (hX : Clo eX5_findGraphs post X) : X 0 (padL 3 (ent av)) [] f a := by
  unfold sX5_findGraphs at h
  split at h
  · obtain ⟨P, om, hR0, hW, eo, hom, h⟩ := h
    have hK := okK_P hW
    have n12 := hW.2.1
    have n3 := hW.1
    have rm : ∀ f1 a1, FG f a f1 a1 → RM (a1 5 0 0) P := fun f1 a1 hF => by rw [(hF.st (k := 0) (by decide)).2]; exact hR0
    have om1 : ∀ f1 a1, FG f a f1 a1 → f1 5 0 20 = fM om := fun f1 a1 hF => by rw [(hF.st (k := 20) (by decide)).1]; exact eo
    -- behind all
    have inner : ∀ L g, WL L → g < L.length → (∀ f1 a1 z, FG f a f1 a1 → GM (f1 5 0) (a1 5 0) (inn (kf P) (actO om) L g P.2.length) → X 163 [some (.inr (.inr (5, 0, 0))), some (.inl (nI g)), z] [] f1 a1) →
        ∀ m, m ≤ P.2.length → ∀ f1 a1, FG f a f1 a1 → GM (f1 5 0) (a1 5 0) (inn (kf P) (actO om) L g m) → X 91 [some (.inr (.inr (5, 0, 0))), some (.inl (nI g)), some (.inl (nI m))] [] f1 a1 := by
      intro L g hL hg K
      refine forUp (Pr := fun m => ∀ f1 a1, FG f a f1 a1 → GM (f1 5 0) (a1 5 0) (inn (kf P) (actO om) L g m) → X 91 [some (.inr (.inr (5, 0, 0))), some (.inl (nI g)), some (.inl (nI m))] [] f1 a1) ?_ ?_
      · intro m hm ih f1 a1 hF hG
        have hR := rm f1 a1 hF
        obtain ⟨r0, r1, -⟩ := hR.2.2.2 m hm
        have hI := inn_ok (act := actO om) hK hL hg m (by omega)
        obtain ⟨M, eM⟩ := inn_pre (K := kf P) (act := actO om) (L := L) (g := g) m
        have hgl : g < (inn (kf P) (actO om) L g m).length := by rw [eM, List.length_append]; omega
        have eg : ge (inn (kf P) (actO om) L g m) g = ge L g := by rw [eM]; exact ge_app hg
        have hGe := hG.2.1 g hgl
        rw [eg] at hGe
        have h729 := WL_len hL
        have hok := hL.1 g hg
        have cg : (nI g).toNatClampNeg = g := nI_clamp (by omega)
        have hfr : fr P m < 3 := (hK.2 m hm).1
        have n157 : inn (kf P) (actO om) L g (m + 1) = inn (kf P) (actO om) L g m → X 157 [some (.inr (.inr (5, 0, 0))), some (.inl (nI g)), some (.inl (nI m))] [] f1 a1 := fun e => by
          refine hX [91] 20 _ _ _ _ _ ?_
          have := ih f1 a1 hF (by rw [e]; exact hG)
          rw [← nI_1] at this
          exact this
        have ei : inn (kf P) (actO om) L g (m + 1) = if actO om m && decide (fr P m = (ge L g).2.1) then meetL (inn (kf P) (actO om) L g m) (ge L g).1 (to P m) (compN (ge L g).2.2.1 (codeN P m)) (some g) m else inn (kf P) (actO om) L g m := rfl
        refine hX [157] 90 _ _ _ _ _ ?_
        refine ⟨inA 101 (n := 100) rfl rfl (by decide) (by decide), ⟨fun q => absurd ((i_le hR.2.1 rfl (by omega) (by omega)).mp q) (by omega), fun _ => ?_⟩⟩
        refine ⟨fun q => n157 ?_, fun q => ?_⟩
        · have q : nI m = f1 5 0 20 := q
          rw [om1 f1 a1 hF] at q
          rw [ei, (om_eq hom (by omega)).mp q, Bool.false_and]
          rfl
        · have q : actO om m = true := by
            cases z : actO om m with
            | true => rfl
            | false => exact absurd (show nI m = f1 5 0 20 by rw [om1 f1 a1 hF]; exact (om_eq hom (by omega)).mpr z) q
          have ef : a1 5 0 0 (4 + 8 * m + 0) = a1 5 0 13 (nI g).toNatClampNeg ↔ fr P m = (ge L g).2.1 := i_eq r0 (by rw [cg]; exact hGe.2.1) (by omega) (by have := hok.2.1; omega)
          refine ⟨m, 0, rfl, rfl, by omega, inA 729 rfl rfl (by omega) (by decide), ⟨fun q2 => n157 ?_, fun q2 => ?_⟩⟩
          · rw [ei, decide_eq_false (fun z => q2 (ef.mpr z)), Bool.and_false]
            rfl
          · have q2 := ef.mp q2
            rw [q, decide_eq_true q2] at ei
            have ei : inn (kf P) (actO om) L g (m + 1) = meetL (inn (kf P) (actO om) L g m) (ge L g).1 (to P m) (compN (ge L g).2.2.1 (codeN P m)) (some g) m := ei
            refine ⟨inA 729 rfl rfl (by omega) (by decide), m, 1, rfl, rfl, by omega, inA 729 rfl rfl (by omega) (by decide), P, m, hR, hW, rfl, hm, (ge L g).2.2.1, codeN P m, by dsimp only; rw [cg]; exact hGe.2.2.1, rfl, hok.2.2.1, codeN_lt P m, ?_⟩
            refine ⟨_, (ge L g).1, to P m, compN (ge L g).2.2.1 (codeN P m), some g, m, hG, hI, by dsimp only; rw [cg]; exact hGe.1, hok.1, r1, (hK.2 m hm).2.1, rfl, ?_, rfl, fun h hh => by cases hh; exact hgl, rfl, by omega, fun f2 a2 hF2 hG2 => ?_⟩
            · exact compN_lt _ _
            · rw [← ei] at hG2
              refine hX [91] 20 _ _ _ _ _ ?_
              have := ih f2 a2 (hF.tr hF2) hG2
              rw [← nI_1] at this
              exact this
      · intro f1 a1 hF hG
        have hR := rm f1 a1 hF
        refine hX [163] 40 _ _ _ _ _ ?_
        exact ⟨inA 101 (n := 100) rfl rfl (by decide) (by decide), ⟨fun _ => K f1 a1 _ hF hG, fun q => absurd ((i_le hR.2.1 rfl (by omega) (by omega)).mpr (Nat.le_refl _)) q⟩⟩
    have outer : ∀ d L g f1 a1 z, WL L → g + d = 730 → FG f a f1 a1 → GM (f1 5 0) (a1 5 0) L → cloM P om = out (kf P) (actO om) P.2.length d L g → X 81 [some (.inr (.inr (5, 0, 0))), some (.inl (nI g)), z] [] f1 a1 := by
      intro d
      induction d with
      | zero =>
        intro L g f1 a1 z hL hd hF hG e
        have h729 := WL_len hL
        refine hX [] 40 _ _ _ _ _ ?_
        refine ⟨fun _ => h f1 a1 hF (by rw [e]; exact hG), fun q => absurd ((i_le hG.1 rfl (by omega) (by omega)).mpr (by omega)) q⟩
      | succ d ih =>
        intro L g f1 a1 z hL hd hF hG e
        have h729 := WL_len hL
        unfold out at e
        refine hX [91] 40 _ _ _ _ _ ?_
        refine ⟨fun q => ?_, fun q => ?_⟩
        · have q := (i_le hG.1 rfl (by omega) (by omega)).mp q
          rw [if_neg (by omega)] at e
          exact h f1 a1 hF (by rw [e]; exact hG)
        · have q : ¬ L.length ≤ g := fun z => q ((i_le hG.1 rfl (by omega) (by omega)).mpr z)
          rw [if_pos (by omega)] at e
          refine inner L g hL (by omega) (fun f2 a2 z hF2 hG2 => ?_) 0 (Nat.zero_le _) f1 a1 hF hG
          refine hX [81] 20 _ _ _ _ _ ?_
          have := ih _ (g + 1) f2 a2 z (inn_ok hK hL (by omega) _ (Nat.le_refl _)) (by omega) hF2 hG2 e
          rw [← nI_1] at this
          exact this
    have first : ∀ c, c ≤ P.2.length → ∀ f1 a1, FG f a f1 a1 → GM (f1 5 0) (a1 5 0) (ph1 (kf P) (actO om) c) → X 30 [some (.inr (.inr (5, 0, 0))), some (.inl (nI c)), none] [] f1 a1 := by
      refine forUp (Pr := fun c => ∀ f1 a1, FG f a f1 a1 → GM (f1 5 0) (a1 5 0) (ph1 (kf P) (actO om) c) → X 30 [some (.inr (.inr (5, 0, 0))), some (.inl (nI c)), none] [] f1 a1) ?_ ?_
      · intro c hc ih f1 a1 hF hG
        have hR := rm f1 a1 hF
        obtain ⟨r0, r1, -⟩ := hR.2.2.2 c hc
        have hP := ph1_ok (act := actO om) hK c (by omega)
        have ei : ph1 (kf P) (actO om) (c + 1) = if actO om c then meetL (ph1 (kf P) (actO om) c) (fr P c) (to P c) (codeN P c) none c else ph1 (kf P) (actO om) c := rfl
        refine hX [73] 60 _ _ _ _ _ ?_
        have n73 : ∀ f2 a2, FG f a f2 a2 → GM (f2 5 0) (a2 5 0) (ph1 (kf P) (actO om) (c + 1)) → X 73 [some (.inr (.inr (5, 0, 0))), some (.inl (nI c)), none] [] f2 a2 := fun f2 a2 hF2 hG2 => by
          refine hX [30] 20 _ _ _ _ _ ?_
          have := ih f2 a2 hF2 hG2
          rw [← nI_1] at this
          exact this
        refine ⟨inA 101 (n := 100) rfl rfl (by decide) (by decide), ⟨fun q => absurd ((i_le hR.2.1 rfl (by omega) (by omega)).mp q) (by omega), fun _ => ?_⟩⟩
        refine ⟨fun q => n73 f1 a1 hF ?_, fun q => ?_⟩
        · have q : nI c = f1 5 0 20 := q
          rw [om1 f1 a1 hF] at q
          rw [ei, (om_eq hom (by omega)).mp q]
          exact hG
        · have q : actO om c = true := by
            cases z : actO om c with
            | true => rfl
            | false => exact absurd (show nI c = f1 5 0 20 by rw [om1 f1 a1 hF]; exact (om_eq hom (by omega)).mpr z) q
          rw [if_pos q] at ei
          refine ⟨c, 0, rfl, rfl, by omega, c, 1, rfl, rfl, by omega, P, c, hR, hW, rfl, hc, ?_⟩
          refine ⟨_, fr P c, to P c, codeN P c, none, c, hG, hP, r0, (hK.2 c hc).1, r1, (hK.2 c hc).2.1, rfl, codeN_lt P c, rfl, (fun h hh => by cases hh), rfl, by omega, fun f2 a2 hF2 hG2 => ?_⟩
          rw [← ei] at hG2
          exact n73 f2 a2 (hF.tr hF2) hG2
      · intro f1 a1 hF hG
        have hR := rm f1 a1 hF
        refine hX [81] 40 _ _ _ _ _ ?_
        refine ⟨inA 101 (n := 100) rfl rfl (by decide) (by decide), ⟨fun _ => ?_, fun q => absurd ((i_le hR.2.1 rfl (by omega) (by omega)).mpr (Nat.le_refl _)) q⟩⟩
        exact outer 730 _ 0 f1 a1 _ (ph1_ok hK _ (Nat.le_refl _)) rfl hF hG rfl
    have zero : ∀ k, k ≤ 729 → ∀ f1 a1, FG f a f1 a1 → f1 5 0 18 = 0 → (∀ j, j < k → a1 5 0 19 j = -4) → X 7 [some (.inr (.inr (5, 0, 0))), some (.inl (nI k)), none] [] f1 a1 := by
      refine forUp (Pr := fun k => ∀ f1 a1, FG f a f1 a1 → f1 5 0 18 = 0 → (∀ j, j < k → a1 5 0 19 j = -4) → X 7 [some (.inr (.inr (5, 0, 0))), some (.inl (nI k)), none] [] f1 a1) ?_ ?_
      · intro k hk ih f1 a1 hF e18 hz
        refine hX [7] 40 _ _ _ _ _ ?_
        refine ⟨fun q => absurd ((i_le (show (729 : Int32) = nI 729 from rfl) rfl (by decide) (by omega)).mp q) (by omega), fun _ => ?_⟩
        refine ⟨inA 729 rfl rfl hk (by decide), ?_⟩
        have := ih f1 (upa a1 5 0 19 (nI k).toNatClampNeg (-4)) (hF.ua 19 (by decide) _ _) e18 (fun j hj => by
          rw [upa_s, if_pos rfl, upd_s, nI_clamp (by omega)]
          by_cases z : j = k
          · rw [if_pos z]
          · rw [if_neg z]
            exact hz j (by omega))
        rw [← nI_1] at this
        exact this
      · intro f1 a1 hF e18 hz
        refine hX [30] 40 _ _ _ _ _ ?_
        refine ⟨fun _ => ?_, fun q => absurd (by decide) q⟩
        exact first 0 (Nat.zero_le _) f1 a1 hF ⟨e18, fun g hg => absurd hg (Nat.not_lt_zero g), fun q hq => hz q hq⟩
    refine hX [7] 40 _ _ _ _ _ ?_
    exact zero 0 (Nat.zero_le _) _ a ((FG.rf f a).uf 18 (by decide) _) (by rw [upf_s, if_pos rfl]) (fun j hj => absurd hj (Nat.not_lt_zero j))
  · exact h.elim
theorem shX5_findGraphs : ∀ As f a Q, sX5_findGraphs As f a Q → ∃ i r, As = .inr (.inr (5, i, 0)) :: r := by
  intro As f a Q h
  unfold sX5_findGraphs at h
  split at h
  · exact ⟨_, _, rfl⟩
  · exact h.elim
theorem mX5_findGraphs {g : Gm} (hg : GmOK g) : MetC g yX5_findGraphs cX5_findGraphs 3 none 4 sX5_findGraphs := by
  refine MetC_of hg eX5_findGraphs (eokX5_findGraphs hg) (by decide +kernel) (fun av f a post h => ?_) rX5_findGraphs
  unfold sX5_findGraphs at h
  split at h
  · exact Nat.le_of_ble_eq_true rfl
  · exact h.elim
