/-! the reference's graphs -/
def fM : Option Nat → Int32
  | none => -4
  | some g => nI g
theorem fM_none {o : Option Nat} (hb : ∀ g, o = some g → g < 1000) : fM o = -4 ↔ o = none := by
  cases o with
  | none => exact ⟨fun _ => rfl, fun _ => rfl⟩
  | some g =>
    have hg := hb g rfl
    refine ⟨fun z => ?_, fun z => by cases z⟩
    have : (nI g).toInt = (-4 : Int32).toInt := congrArg Int32.toInt z
    rw [nI_toInt (by omega)] at this
    have h4 : (-4 : Int32).toInt = -4 := by decide
    omega
def GME (w : Nat → Nat → Int32) (g : Nat) (e : Gr) : Prop := w 12 g = nI e.1 ∧ w 13 g = nI e.2.1 ∧ w 14 g = nI e.2.2.1 ∧ w 15 g = fM e.2.2.2.1 ∧ w 16 g = nI e.2.2.2.2.1 ∧ w 17 g = nI e.2.2.2.2.2.1
def GM (u : Nat → Int32) (w : Nat → Nat → Int32) (L : List Gr) : Prop := u 18 = nI L.length ∧ (∀ g, g < L.length → GME w g (ge L g)) ∧ ∀ q, q < 729 → w 19 q = fM (fnd L q)
/-- only the graphs' rows changed -/
def FG (f : FF) (a : AA) (f' : FF) (a' : AA) : Prop := ∀ t i k, ¬ (t = 5 ∧ i = 0 ∧ 12 ≤ k ∧ k ≤ 19) → f' t i k = f t i k ∧ a' t i k = a t i k
theorem FG.rf (f : FF) (a : AA) : FG f a f a := fun _ _ _ _ => ⟨rfl, rfl⟩
theorem FG.tr {f f' f'' : FF} {a a' a'' : AA} (h : FG f a f' a') (h' : FG f' a' f'' a'') : FG f a f'' a'' := fun t i k q => ⟨(h' t i k q).1.trans (h t i k q).1, (h' t i k q).2.trans (h t i k q).2⟩
theorem FG.uf {f f' : FF} {a a' : AA} (h : FG f a f' a') (k : Nat) (hk : 12 ≤ k ∧ k ≤ 19) (x : Int32) : FG f a (upf f' 5 0 k x) a' := fun t i j q => by
  refine ⟨?_, (h t i j q).2⟩
  rw [upf_ne (fun z => q ⟨z.1, z.2.1, by omega⟩)]
  exact (h t i j q).1
theorem FG.ua {f f' : FF} {a a' : AA} (h : FG f a f' a') (k : Nat) (hk : 12 ≤ k ∧ k ≤ 19) (n : Nat) (x : Int32) : FG f a f' (upa a' 5 0 k n x) := fun t i j q => by
  refine ⟨(h t i j q).1, ?_⟩
  by_cases z : t = 5 ∧ i = 0
  · obtain ⟨rfl, rfl⟩ := z
    rw [upa_s, if_neg (fun y => q ⟨rfl, rfl, by omega⟩)]
    exact (h 5 0 j q).2
  · rw [upa_o _ _ z]
    exact (h t i j q).2
theorem FG.st {f f' : FF} {a a' : AA} (h : FG f a f' a') {k : Nat} (hk : k < 12 ∨ 19 < k) : f' 5 0 k = f 5 0 k ∧ a' 5 0 k = a 5 0 k := h 5 0 k (by omega)
def mgA (a : AA) (n q : Nat) (x1 x2 x3 x4 x5 x6 : Int32) : AA := upa (upa (upa (upa (upa (upa (upa a 5 0 19 q (nI n)) 5 0 12 n x1) 5 0 13 n x2) 5 0 14 n x3) 5 0 15 n x4) 5 0 16 n x5) 5 0 17 n x6
theorem GM_new {f f' : FF} {a : AA} {L : List Gr} (h : GM (f 5 0) (a 5 0) L) {i t c la : Nat} {ah : Option Nat} (hn : fnd L (pl i t c) = none) (h18 : f' 5 0 18 = nI (L.length + 1)) :
    GM (f' 5 0) (mgA a L.length (pl i t c) (nI i) (nI t) (nI c) (fM ah) (nI la) (nI (newE L i t c ah la).2.2.2.2.2.1) 5 0) (L ++ [newE L i t c ah la]) := by
  unfold mgA
  refine ⟨?_, fun g hg => ?_, fun q hq => ?_⟩
  · rw [h18, List.length_append]; rfl
  · have hg : g < L.length ∨ g = L.length := by simp at hg; omega
    rcases hg with hg | rfl
    · rw [ge_app hg]
      have q := h.2.1 g hg
      have hne : ¬ g = L.length := by omega
      refine ⟨?_, ?_, ?_, ?_, ?_, ?_⟩
      · simp [upa_s, upd_s, hne]; exact q.1
      · simp [upa_s, upd_s, hne]; exact q.2.1
      · simp [upa_s, upd_s, hne]; exact q.2.2.1
      · simp [upa_s, upd_s, hne]; exact q.2.2.2.1
      · simp [upa_s, upd_s, hne]; exact q.2.2.2.2.1
      · simp [upa_s, upd_s, hne]; exact q.2.2.2.2.2
    · rw [ge_last]
      refine ⟨?_, ?_, ?_, ?_, ?_, ?_⟩ <;> simp [upa_s, upd_s] <;> rfl
  · rw [fnd_app]
    simp only [upa_s, upd_s]
    simp
    rw [upd_s]
    by_cases hq2 : q = pl i t c
    · subst hq2
      rw [if_pos rfl, hn]
      show _ = fM (if gpl _ = _ then _ else _)
      rw [if_pos (by rfl)]
      rfl
    · rw [if_neg hq2, h.2.2 q hq]
      cases fnd L q with
      | some g => rfl
      | none =>
        show _ = fM (if gpl _ = _ then _ else _)
        rw [if_neg (fun z => hq2 z.symm)]
def sX5_comes : SP := fun As f a Q => match As with
  | [.inr (.inr (5, 0, 0)), .inl x1, .inl x2, .inl x3, .inl x4, .inl x5] => ∃ L i t c ah la, GM (f 5 0) (a 5 0) L ∧ WL L ∧ x1 = nI i ∧ i < 3 ∧ x2 = nI t ∧ t < 3 ∧ x3 = nI c ∧ c < 81 ∧ x4 = fM ah ∧ (∀ h, ah = some h → h < L.length) ∧ x5 = nI la ∧ la < 12 ∧ ∀ f' a', FG f a f' a' → GM (f' 5 0) (a' 5 0) (meetL L i t c ah la) → Q none f' a'
  | _ => False
def eX5_comes : En := (tX5_comes, [(155, true, 3, sX5_slot)], fdX5, [], 2)
theorem eokX5_comes {g : Gm} (hg : GmOK g) : EnvOK g 1 RX5 cX5_comes none eX5_comes := ⟨okX5_comes, fun _ _ _ _ h => as2_all (P := fun i v => CallOK g 1 RX5 i v.1 v.2.1 v.2.2) (l := eX5_comes.2.1) ⟨callS_ok hg (mX5_slot hg) kX5_slot mlX5_155 qX5_slot ⟨by decide, by decide⟩, trivial⟩ h, fdX5_ok, (fun _ _ h => by cases h), rfl⟩
theorem rX5_comes (av : List AV) (f : FF) (a : AA) (post : PT) (h : sX5_comes av f a post) (X : XT) (hX : Clo eX5_comes post X) : X 0 (padL 7 (ent av)) [] f a := by
  unfold sX5_comes at h
  split at h
  · rename_i x1 x2 x3 x4 x5
    obtain ⟨L, i, t, c, ah, la, hR, hL, rfl, hi, rfl, ht, rfl, hc, rfl, hah, rfl, hla, h⟩ := h
    have hp := pl_lt hi ht hc
    have ep : 81 * (3 * i + t) + c = pl i t c := by unfold pl; omega
    have hlen := WL_len hL
    have ef := hR.2.2 _ hp
    have cp : (nI (81 * (3 * i + t) + c)).toNatClampNeg = pl i t c := by rw [ep]; exact nI_clamp (by omega)
    have hN : a 5 0 19 (nI (81 * (3 * i + t) + c)).toNatClampNeg = -4 ↔ fnd L (pl i t c) = none := by
      rw [cp, ef]
      exact fM_none (fun g hg => by have := (fnd_some hg).1; omega)
    refine hX [111] 90 _ _ _ _ _ ?_
    refine ⟨i, t, c, rfl, rfl, rfl, inA 729 rfl rfl (by omega) (by decide), fun q => ?_, fun q => ?_⟩
    · have hs : ∃ g, fnd L (pl i t c) = some g := by
        cases hh : fnd L (pl i t c) with
        | none => exact absurd (hN.mpr hh) q
        | some g => exact ⟨g, rfl⟩
      obtain ⟨g, hg⟩ := hs
      have em : meetL L i t c ah la = L := by unfold meetL; rw [hg]
      rw [em] at h
      exact h f a (FG.rf f a) hR
    · have hn := hN.mp q
      have hlt : L.length < 729 := by
        have := WL_len (WL_new (la := la) hL hi ht hc hla hah hn)
        rw [List.length_append] at this
        exact this
      have em : meetL L i t c ah la = L ++ [newE L i t c ah la] := by unfold meetL; rw [hn]
      rw [em] at h
      have e4 := hR.1
      have cg : (nI L.length).toNatClampNeg = L.length := nI_clamp (by omega)
      refine ⟨inA 729 rfl rfl (by omega) (by decide), inA 729 e4 rfl hlt (by decide), inA 729 e4 rfl hlt (by decide), inA 729 e4 rfl hlt (by decide), inA 729 e4 rfl hlt (by decide), inA 729 e4 rfl hlt (by decide), ?_⟩
      have hA : ∀ h, ah = some h → h < 1000 := fun h hh => by have := hah h hh; omega
      have h111 : ∀ A5 v, A5 = upa (upa (upa (upa (upa (upa a 5 0 19 (pl i t c) (nI L.length)) 5 0 12 L.length (nI i)) 5 0 13 L.length (nI t)) 5 0 14 L.length (nI c)) 5 0 15 L.length (fM ah)) 5 0 16 L.length (nI la) → v = nI (newE L i t c ah la).2.2.2.2.2.1 →
          X 111 [some (.inr (.inr (5, 0, 0))), some (.inl (nI i)), some (.inl (nI t)), some (.inl (nI c)), some (.inl (fM ah)), some (.inl (nI la)), some (.inl (nI (81 * (3 * i + t) + c)))] [.inl v, .inl (f 5 0 18), .inr (.inr (5, 0, 18))] f A5 := by
        intro A5 v e5 ev
        refine hX [] 60 _ _ _ _ _ ?_
        refine ⟨inA 729 e4 rfl hlt (by decide), ?_⟩
        have hF : FG f a (upf f 5 0 18 (nI (L.length + 1))) (mgA a L.length (pl i t c) (nI i) (nI t) (nI c) (fM ah) (nI la) (nI (newE L i t c ah la).2.2.2.2.2.1)) := ((((((((FG.rf f a).ua 19 (by decide) _ _).ua 12 (by decide) _ _).ua 13 (by decide) _ _).ua 14 (by decide) _ _).ua 15 (by decide) _ _).ua 16 (by decide) _ _).ua 17 (by decide) _ _).uf 18 (by decide) _
        refine pV (h _ _ hF (GM_new hR hn (by rw [upf_s, if_pos rfl]))) ?_ ?_
        · dsimp only
          rw [e4, nI_1]
        · rw [e4, cg, e5, ev]
          rfl
      dsimp only
      simp only [e4, cp, cg]
      cases ah with
      | none =>
        refine ⟨fun q => absurd rfl q, fun q => ?_⟩
        exact h111 _ _ rfl rfl
      | some hh =>
        have hhl := hah hh rfl
        refine ⟨fun q => ?_, fun q => absurd ((fM_none hA).mp q) (by intro z; cases z)⟩
        refine ⟨inA 729 rfl rfl (show hh < 729 by omega) (by decide), ?_⟩
        refine h111 _ _ rfl ?_
        dsimp only
        rw [show (fM (some hh)).toNatClampNeg = hh from nI_clamp (by omega)]
        simp [upa_s]
        rw [(hR.2.1 hh hhl).2.2.2.2.2]
        exact (nI_succ _).symm
  · exact h.elim
theorem shX5_comes : ∀ As f a Q, sX5_comes As f a Q → ∃ i r, As = .inr (.inr (5, i, 0)) :: r := by
  intro As f a Q h
  unfold sX5_comes at h
  split at h
  · exact ⟨_, _, rfl⟩
  · exact h.elim
theorem mX5_comes {g : Gm} (hg : GmOK g) : MetC g yX5_comes cX5_comes 7 none 1 sX5_comes := by
  refine MetC_of hg eX5_comes (eokX5_comes hg) (by decide +kernel) (fun av f a post h => ?_) rX5_comes
  unfold sX5_comes at h
  split at h
  · exact Nat.le_of_ble_eq_true rfl
  · exact h.elim
