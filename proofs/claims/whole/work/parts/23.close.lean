/-! Graphs: the closing -/
def kf (P : Pg) : Kf := fun c => (fr P c, to P c, codeN P c)
def kpl (P : Pg) (c : Nat) : Nat := pl (fr P c) (to P c) (codeN P c)
def clo (P : Pg) : List Gr := cloG (kf P) (fun _ => true) P.2.length
def OC (P : Pg) (w : Nat → Nat → Int32) (L : List Gr) (n : Nat) : Prop := ∀ c, c < n → ∃ g, fnd L (kpl P c) = some g ∧ w 2 c = nI g
def GC (u : Nat → Int32) (w : Nat → Nat → Int32) (P : Pg) : Prop := GR u w (clo P) ∧ OC P w (clo P) P.2.length
theorem okK_P {P : Pg} (hW : WF P) : okK (kf P) P.2.length := ⟨hW.l12, fun c hc => ⟨by have := hW.fr_lt hc; have := hW.l3; show fr P c < 3; omega, by have := hW.to_lt hc; have := hW.l3; show to P c < 3; omega, codeN_lt P c⟩⟩
theorem GR.w2 {u : Nat → Int32} {w w' : Nat → Nat → Int32} {L : List Gr} (h : GR u w L) (hw : ∀ k, k ≠ 2 → w' k = w k) : GR u w' L := by
  refine ⟨h.1, h.2.1, fun g hg => ?_, fun q hq => ?_, fun i hi => ?_⟩
  · have q := h.2.2.1 g hg
    unfold GE at q ⊢
    rw [hw 0 (by decide), hw 6 (by decide), hw 7 (by decide), hw 8 (by decide), hw 1 (by decide), hw 9 (by decide)]
    exact q
  · rw [hw 10 (by decide)]; exact h.2.2.2.1 q hq
  · rw [hw 3 (by decide)]; exact h.2.2.2.2 i hi
theorem OC.pre {P : Pg} {w w' : Nat → Nat → Int32} {L M : List Gr} {n : Nat} (h : OC P w L n) (hw : w' 2 = w 2) : OC P w' (L ++ M) n := fun c hc => by
  obtain ⟨g, h1, h2⟩ := h c hc
  exact ⟨g, fnd_pre h1, by rw [hw]; exact h2⟩
theorem cnt_le (p : Nat → Bool) : ∀ n, cnt p n ≤ n
  | 0 => Nat.le_refl 0
  | n + 1 => by
    have := cnt_le p n
    unfold cnt
    split <;> omega
theorem cnt_mono (p : Nat → Bool) (n : Nat) : ∀ d, cnt p n ≤ cnt p (n + d)
  | 0 => Nat.le_refl _
  | d + 1 => Nat.le_trans (cnt_mono p n d) (Nat.le_add_right _ _)
theorem loopC_pre (L M : List Gr) : loopC L ≤ loopC (L ++ M) := by
  unfold loopC
  rw [List.length_append, cnt_cong (q := fun g => loopE (ge (L ++ M) g)) (fun k hk => by rw [ge_app hk])]
  exact cnt_mono _ _ _
theorem loopC_lt {L : List Gr} (h : WL L) : loopC L < 1000 := by
  have := cnt_le (fun g => loopE (ge L g)) L.length
  have := WL_len h
  unfold loopC
  omega
def sX0_close : SP := fun As f a Q => match As with
  | [.inr (.inr (0, p, 0)), .inr (.inr (1, p', 0)), .inl x] => ∃ P, RC (f 1 p') (a 1 p') P ∧ WF P ∧ (x = 0 ∨ x = 1) ∧ ∀ f' a', Fr f a f' a' 0 p → (x = 0 → GC (f' 0 p) (a' 0 p) P) → (x = 1 → (f' 0 p 5 = 0 ↔ loopC (clo P) = 0)) → Q none f' a'
  | _ => False
def eX0_close : En := (tX0_close, [(42, false, 1, sX0_forget), (57, false, 2, sX1_bitsOf), (61, false, 6, sX0_meet), (71, false, 2, sX0_toOf), (74, true, 2, sX0_composed), (78, false, 2, sX0_fromOf)], fdX0, [], 2)
theorem eokX0_close {g : Gm} (hg : GmOK g) : EnvOK g 4 RX0 cX0_close none eX0_close := ⟨okX0_close, fun _ _ _ _ h => as2_all (P := fun i v => CallOK g 4 RX0 i v.1 v.2.1 v.2.2) (l := eX0_close.2.1) ⟨callV_ok (t := 0) hg (mX0_forget hg) kX0_forget mlX0_42 qX0_forget.1 qX0_forget.2 ⟨by decide, by decide⟩ ⟨_, _, rfl⟩ shX0_forget, callV_ok (t := 1) hg (mX1_bitsOf hg) kX1_bitsOf mlX0_57 qX1_bitsOf.1 qX1_bitsOf.2 ⟨by decide, by decide⟩ ⟨_, _, rfl⟩ shX1_bitsOf, callV_ok (t := 0) hg (mX0_meet hg) kX0_meet mlX0_61 qX0_meet.1 qX0_meet.2 ⟨by decide, by decide⟩ ⟨_, _, rfl⟩ shX0_meet, callV_ok (t := 0) hg (mX0_toOf hg) kX0_toOf mlX0_71 qX0_toOf.1 qX0_toOf.2 ⟨by decide, by decide⟩ ⟨_, _, rfl⟩ shX0_toOf, callS_ok hg (mX0_composed hg) kX0_composed mlX0_74 qX0_composed ⟨by decide, by decide⟩, callV_ok (t := 0) hg (mX0_fromOf hg) kX0_fromOf mlX0_78 qX0_fromOf.1 qX0_fromOf.2 ⟨by decide, by decide⟩ ⟨_, _, rfl⟩ shX0_fromOf, trivial⟩ h, fdX0_ok, (fun _ _ h => by cases h), rfl⟩
theorem Fr.at {f f' : FF} {a a' : AA} {t i t' i' : Nat} (h : Fr f a f' a' t i) (hn : ¬ (t' = t ∧ i' = i)) : f' t' i' = f t' i' ∧ a' t' i' = a t' i' := h t' i' hn
theorem rX0_close (av : List AV) (f : FF) (a : AA) (post : PT) (h : sX0_close av f a post) (X : XT) (hX : Clo eX0_close post X) : X 0 (padL 6 (ent av)) [] f a := by
  unfold sX0_close at h
  split at h
  · rename_i p p' x
    obtain ⟨P, hR0, hW, hx, h⟩ := h
    have h12 := hW.l12
    have h3 := hW.l3
    have hK := okK_P hW
    have hwc : WL (clo P) := clo_ok hK
    have rc : ∀ {f1 : FF} {a1 : AA}, Fr f a f1 a1 0 p → RC (f1 1 p') (a1 1 p') P := fun hF => by
      have q := hF.at (t' := 1) (i' := p') (fun z => absurd z.1 (by decide))
      rw [q.1, q.2]
      exact hR0
    refine hX [6] 90 _ _ _ _ _ ?_
    refine fun f0 a0 hF0 hG0 => ?_
    refine forUp (Pr := fun c => ∀ f1 a1, Fr f a f1 a1 0 p → GR (f1 0 p) (a1 0 p) (ph1 (kf P) (fun _ => true) c) → OC P (a1 0 p) (ph1 (kf P) (fun _ => true) c) c → X 6 [some (.inr (.inr (0, p, 0))), some (.inr (.inr (1, p', 0))), some (.inl x), some (.inl (nI c)), none, none] [] f1 a1) (n := P.2.length) (fun c hc next f1 a1 hF hG hO => ?_) (fun f1 a1 hF hG hO => ?_) 0 (Nat.zero_le _) f0 a0 hF0 hG0 (fun c hc => absurd hc (Nat.not_lt_zero c))
    · have hR := rc hF
      have hfr := hW.fr_lt hc
      have hto := hW.to_lt hc
      refine hX [6] 90 _ _ _ _ _ ?_
      refine ⟨fun q => ?_, fun q => ?_⟩
      · rw [hR.2.1] at q
        exact absurd q (nI_ge hc (by omega))
      · refine ⟨inA 12 rfl rfl (by omega) (by decide), inA 12 rfl rfl (by omega) (by decide), P, c, hR, hW, rfl, hc, ?_⟩
        refine ⟨ph1 (kf P) (fun _ => true) c, fr P c, to P c, codeN P c, none, c, hG, ph1_ok hK c (by omega), hR.fr_i hW hc, by omega, hR.to_i hW hc, by omega, rfl, codeN_lt P c, rfl, (fun h hh => by cases hh), rfl, by omega, fun f2 a2 hF2 h2 hG2 => ?_⟩
        refine ⟨inA 12 rfl rfl (by omega) (by decide), ?_⟩
        obtain ⟨g, hg⟩ := meet_has (ph1 (kf P) (fun _ => true) c) (fr P c) (to P c) (codeN P c) none c
        obtain ⟨M, hM⟩ := meet_pre (ph1 (kf P) (fun _ => true) c) (fr P c) (to P c) (codeN P c) none c
        have ep : ph1 (kf P) (fun _ => true) (c + 1) = meetL (ph1 (kf P) (fun _ => true) c) (fr P c) (to P c) (codeN P c) none c := rfl
        rw [hg, nI_clamp (show c < 2 ^ 31 by omega)]
        have n1 := next f2 (upa a2 0 p 2 c (fI (some g))) ((hF.tr hF2).ua 2 c _) (by
          rw [ep]
          refine hG2.w2 (fun k hk => ?_)
          rw [upa_s, if_neg hk]) (by
          intro c' hc'
          rw [ep]
          rcases (show c' < c ∨ c' = c by omega) with z | rfl
          · obtain ⟨g', q1, q2⟩ := hO c' z
            refine ⟨g', by rw [hM]; exact fnd_pre q1, ?_⟩
            rw [upa_s, if_pos rfl, upd_s, if_neg (by omega), h2]
            exact q2
          · exact ⟨g, hg, by rw [upa_s, if_pos rfl, upd_s, if_pos rfl]; rfl⟩)
        rw [nI_succ] at n1
        exact n1
    · have hR := rc hF
      refine hX [51] 90 _ _ _ _ _ ?_
      refine ⟨fun q => ?_, fun q => ?_⟩
      · have key : ∀ d g L f1 a1 z4 z5, g + d = 730 → WL L → Fr f a f1 a1 0 p → GR (f1 0 p) (a1 0 p) L → OC P (a1 0 p) L P.2.length → out (kf P) (fun _ => true) P.2.length d L g = clo P → X 51 [some (.inr (.inr (0, p, 0))), some (.inr (.inr (1, p', 0))), some (.inl x), some (.inl (nI g)), z4, z5] [] f1 a1 := by
          intro d
          induction d with
          | zero =>
            intro g L f1 a1 z4 z5 hgd hL hF hG hO ho
            have hlen := WL_len hL
            have ho : L = clo P := ho
            subst ho
            refine hX [51] 90 _ _ _ _ _ ?_
            refine ⟨fun q => ?_, fun q => ?_⟩
            · refine h f1 a1 hF (fun _ => ⟨hG, hO⟩) (fun _ => ?_)
              rw [hG.2.1]
              exact i_eq (b := 0) rfl rfl (i31 (loopC_lt hL)) (by decide)
            · rw [hG.1] at q
              exact absurd (nI_le (by omega) (by omega)) q
          | succ d ih =>
            intro g L f1 a1 z4 z5 hgd hL hF hG hO ho
            have hlen := WL_len hL
            refine hX [51, 78] 90 _ _ _ _ _ ?_
            refine ⟨fun q => ?_, fun q => ?_⟩
            · rw [hG.1, nI_leI (by omega) (by omega)] at q
              have ho : L = clo P := by
                rw [← ho, out, if_neg (by omega)]
              subst ho
              refine h f1 a1 hF (fun _ => ⟨hG, hO⟩) (fun _ => ?_)
              rw [hG.2.1]
              exact i_eq (b := 0) rfl rfl (i31 (loopC_lt hL)) (by decide)
            · rw [hG.1, nI_leI (by omega) (by omega)] at q
              have hg : g < L.length := by omega
              have ho2 : out (kf P) (fun _ => true) P.2.length d (inn (kf P) (fun _ => true) L g P.2.length) (g + 1) = clo P := by
                rw [← ho, out, if_pos hg]
              have he := hL.1 g hg
              have k78 : X 78 [some (.inr (.inr (0, p, 0))), some (.inr (.inr (1, p', 0))), some (.inl x), some (.inl (nI g)), z4, z5] [] f1 a1 := by
                refine hX [51, 81] 90 _ _ _ _ _ ?_
                refine forUp (Pr := fun c => ∀ f2 a2 z5, Fr f a f2 a2 0 p → GR (f2 0 p) (a2 0 p) (inn (kf P) (fun _ => true) L g c) → OC P (a2 0 p) (inn (kf P) (fun _ => true) L g c) P.2.length → X 81 [some (.inr (.inr (0, p, 0))), some (.inr (.inr (1, p', 0))), some (.inl x), some (.inl (nI g)), some (.inl (nI c)), z5] [] f2 a2) (n := P.2.length) (fun c hc next f2 a2 z5 hF2 hG2 hO2 => ?_) (fun f2 a2 z5 hF2 hG2 hO2 => ?_) 0 (Nat.zero_le _) f1 a1 z5 hF hG hO
                · have hR2 := rc hF2
                  have hfr := hW.fr_lt hc
                  have hto := hW.to_lt hc
                  obtain ⟨M, hM⟩ := inn_pre (K := kf P) (act := fun _ => true) (L := L) (g := g) c
                  have hgl : g < (inn (kf P) (fun _ => true) L g c).length := by rw [hM, List.length_append]; omega
                  have hge : ge (inn (kf P) (fun _ => true) L g c) g = ge L g := by rw [hM, ge_app hg]
                  have hE := hG2.2.2.1 g hgl
                  rw [hge] at hE
                  refine hX [51, 81] 90 _ _ _ _ _ ?_
                  refine ⟨fun q => ?_, fun q => ?_⟩
                  · rw [hR2.2.1] at q
                    exact absurd q (nI_ge hc (by omega))
                  · refine ⟨inA 12 rfl rfl (by omega) (by decide), g, (ge L g).1, (ge L g).2.1, rfl, by omega, hE.2.1, he.1, he.2.1, fun q => ?_, fun q => ?_⟩
                    · rw [hR2.fr_i hW hc] at q
                      have q : ¬ (kf P c).1 = (ge L g).2.1 := fun z => q (by rw [← z]; rfl)
                      have ei : inn (kf P) (fun _ => true) L g (c + 1) = inn (kf P) (fun _ => true) L g c := by
                        rw [inn]
                        simp [q]
                      rw [ei] at next
                      have n1 := next f2 a2 z5 hF2 hG2 hO2
                      rw [nI_succ] at n1
                      exact n1
                    · rw [hR2.fr_i hW hc] at q
                      have q : (kf P c).1 = (ge L g).2.1 := (nI_eq (by show fr P c < _; omega) (by have := he.2.1; omega)).mp q
                      have ei : inn (kf P) (fun _ => true) L g (c + 1) = meetL (inn (kf P) (fun _ => true) L g c) (ge L g).1 (to P c) (compN (ge L g).2.2.1 (codeN P c)) (some g) c := by
                        rw [inn]
                        simp [q]
                        rfl
                      obtain ⟨g', hg', hw'⟩ := hO2 c hc
                      obtain ⟨hgl', hgp'⟩ := fnd_some hg'
                      have hLi := inn_ok (act := fun _ => true) hK hL hg c (by omega)
                      have he' := hLi.1 g' hgl'
                      have hE' := hG2.2.2.1 g' hgl'
                      have hli := WL_len hLi
                      have hcode : (ge (inn (kf P) (fun _ => true) L g c) g').2.2.1 = codeN P c := (pl_inj he'.2.1 he'.2.2.1 (show to P c < 3 by omega) (codeN_lt P c) hgp').2.2
                      have cc : (nI c).toNatClampNeg = c := nI_clamp (by omega)
                      have cg : (nI g).toNatClampNeg = g := nI_clamp (by omega)
                      have cg' : (nI g').toNatClampNeg = g' := nI_clamp (by omega)
                      refine ⟨inA 729 rfl rfl (by omega) (by decide), inA 12 rfl rfl (by omega) (by decide), inA 729 (by rw [cc]; exact hw') rfl (by omega) (by decide), ?_⟩
                      refine ⟨(ge L g).2.2.1, codeN P c, he.2.2.1, codeN_lt P c, by rw [cg]; exact hE.1, by rw [cc, hw', cg', hE'.1, hcode], ?_⟩
                      refine ⟨g, (ge L g).1, (ge L g).2.1, rfl, by omega, hE.2.1, he.1, he.2.1, inA 12 rfl rfl (by omega) (by decide), ?_⟩
                      refine ⟨inn (kf P) (fun _ => true) L g c, (ge L g).1, to P c, compN (ge L g).2.2.1 (codeN P c), some g, c, hG2, hLi, rfl, he.1, hR2.to_i hW hc, by omega, rfl, compN_lt _ _, rfl, (fun h hh => by cases hh; exact hgl), rfl, by omega, fun f3 a3 hF3 h3' hG3 => ?_⟩
                      rw [← ei] at hG3
                      obtain ⟨M3, hM3⟩ := meet_pre (inn (kf P) (fun _ => true) L g c) (ge L g).1 (to P c) (compN (ge L g).2.2.1 (codeN P c)) (some g) c
                      have n1 := next f3 a3 (some (.inl (nI (bitsN (compN (ge L g).2.2.1 (codeN P c)))))) (hF2.tr hF3) hG3 (by
                        rw [ei, hM3]
                        exact hO2.pre h3')
                      rw [nI_succ] at n1
                      exact n1
                · have hR2 := rc hF2
                  refine hX [51, 81] 90 _ _ _ _ _ ?_
                  refine ⟨fun q => ?_, fun q => ?_⟩
                  · have n1 := ih (g + 1) _ f2 a2 (some (.inl (nI P.2.length))) z5 (by omega) (inn_ok hK hL hg _ (Nat.le_refl _)) hF2 hG2 hO2 ho2
                    rw [nI_succ] at n1
                    exact n1
                  · rw [hR2.2.1] at q
                    exact absurd (Int32.le_refl _) q
              refine ⟨fun q => absurd q (nI_ge (b := 729) (by omega) (by decide)), fun q => ?_⟩
              refine ⟨fun q => k78, fun q => ⟨fun q2 => k78, fun q2 => ?_⟩⟩
              have hx1 : x = 1 := hx.elim (fun z => absurd z q) id
              refine h f1 a1 hF (fun z => absurd z q) (fun _ => ?_)
              rw [hG.2.1] at q2 ⊢
              have hpos : 0 < loopC L := Nat.not_le.mp (fun z => q2 ((i_le (b := 0) rfl rfl (i31 (loopC_lt hL)) (by decide)).mpr z))
              obtain ⟨M, hM⟩ := (out_ok (act := fun _ => true) hK (d + 1) L g hL).2
              rw [ho] at hM
              have := loopC_pre L M
              rw [← hM] at this
              refine ⟨fun z => ?_, fun z => by omega⟩
              have z := (i_eq (b := 0) rfl rfl (i31 (loopC_lt hL)) (by decide)).mp z
              omega
        exact key 730 0 _ f1 a1 none none rfl (ph1_ok hK _ (Nat.le_refl _)) hF hG hO rfl
      · rw [hR.2.1] at q
        exact absurd (Int32.le_refl _) q
  · exact h.elim
theorem shX0_close : ∀ As f a Q, sX0_close As f a Q → ∃ i r, As = .inr (.inr (0, i, 0)) :: r := by
  intro As f a Q h
  unfold sX0_close at h
  split at h
  · exact ⟨_, _, rfl⟩
  · exact h.elim
theorem mX0_close {g : Gm} (hg : GmOK g) : MetC g yX0_close cX0_close 6 none 4 sX0_close := by
  refine MetC_of hg eX0_close (eokX0_close hg) (by decide +kernel) (fun av f a post h => ?_) rX0_close
  unfold sX0_close at h
  split at h
  · exact Nat.le_of_ble_eq_true rfl
  · exact h.elim
