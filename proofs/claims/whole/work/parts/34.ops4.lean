/-! set; sheets; images -/
def setA (P : Pg) (c k x : Nat) : Pg := (P.1, P.2.set c (if k = 0 then ((cl P c).1, (cl P c).2.1, x, (cl P c).2.2.2) else ((cl P c).1, (cl P c).2.1, (cl P c).2.2.1, x)))
theorem cl_setA {P : Pg} {c k x j : Nat} (hc : c < P.2.length) : cl (setA P c k x) j = if j = c then (if k = 0 then ((cl P c).1, (cl P c).2.1, x, (cl P c).2.2.2) else ((cl P c).1, (cl P c).2.1, (cl P c).2.2.1, x)) else cl P j := by
  unfold setA
  show (P.2.set c _).getD j _ = _
  by_cases h : j = c
  · subst h
    rw [if_pos rfl, List.getD_eq_getElem?_getD, List.getElem?_set_self hc]
    rfl
  · rw [if_neg h, List.getD_eq_getElem?_getD, List.getElem?_set_ne (Ne.symm h)]
    unfold cl
    rw [List.getD_eq_getElem?_getD]
theorem fr_setA {P : Pg} {c k x j : Nat} (hc : c < P.2.length) : fr (setA P c k x) j = fr P j := by
  unfold fr
  rw [cl_setA hc]
  split
  · rename_i h
    subst h
    split <;> rfl
  · rfl
theorem to_setA {P : Pg} {c k x j : Nat} (hc : c < P.2.length) : to (setA P c k x) j = to P j := by
  unfold to
  rw [cl_setA hc]
  split
  · rename_i h
    subst h
    split <;> rfl
  · rfl
theorem ag_setA {P : Pg} {c k x j i : Nat} (hc : c < P.2.length) (hk : k < 2) (hi : i < 2) : ag (setA P c k x) j i = if j = c ∧ i = k then x else ag P j i := by
  unfold ag
  rw [cl_setA hc]
  by_cases h : j = c
  · subst h
    rw [if_pos rfl]
    rcases (show k = 0 ∨ k = 1 by omega) with rfl | rfl <;> rcases (show i = 0 ∨ i = 1 by omega) with rfl | rfl <;> simp [agq]
  · rw [if_neg h, if_neg (fun z => h z.1)]
theorem len_setA (P : Pg) (c k x : Nat) : (setA P c k x).2.length = P.2.length := by
  unfold setA
  exact List.length_set
theorem RC.stA {f : FF} {a : AA} {p : Nat} {P : Pg} (h : RC (f 1 p) (a 1 p) P) {c k x : Nat} (hc : c < P.2.length) (hk : k < 2) : RC (f 1 p) (upa a 1 p 3 (2 * c + k) (nI x) 1 p) (setA P c k x) := by
  refine ⟨h.1, by rw [len_setA]; exact h.2.1, fun i hi => ?_, fun j hj => ?_⟩
  · rw [upa_s, if_neg (by decide)]
    exact h.2.2.1 i hi
  · rw [len_setA] at hj
    have q := h.2.2.2 j hj
    rw [fr_setA hc, to_setA hc, ag_setA hc hk (by decide), ag_setA hc hk (by decide)]
    refine ⟨?_, ?_, ?_, ?_⟩
    · rw [upa_s, if_neg (by decide)]; exact q.1
    · rw [upa_s, if_neg (by decide)]; exact q.2.1
    · rw [upa_s, if_pos rfl, upd_s]
      by_cases hh : j = c ∧ 0 = k
      · rw [if_pos hh, if_pos (by omega)]
      · rw [if_neg hh, if_neg (by omega)]; exact q.2.2.1
    · rw [upa_s, if_pos rfl, upd_s]
      by_cases hh : j = c ∧ 1 = k
      · rw [if_pos hh, if_pos (by omega)]
      · rw [if_neg hh, if_neg (by omega)]; exact q.2.2.2
theorem WF.stA {P : Pg} (h : WF P) {c k x : Nat} (hc : c < P.2.length) (hk : k < ar P (to P c)) (hx : okA (ar P (fr P c)) x = true) : WF (setA P c k x) := by
  have hat := h.ar_to hc
  refine ⟨h.1, by rw [len_setA]; exact h.2.1, h.2.2.1, fun j hj => ?_⟩
  rw [len_setA] at hj
  have q := h.2.2.2 j hj
  have ea : ∀ i, ar (setA P c k x) i = ar P i := fun i => rfl
  unfold okC
  rw [cl_setA hc]
  by_cases hj2 : j = c
  · subst hj2
    rw [if_pos rfl]
    unfold okC at q
    have hfr : (cl P j).1 = fr P j := rfl
    have hto : (cl P j).2.1 = to P j := rfl
    by_cases hk0 : k = 0
    · rw [if_pos hk0]
      exact ⟨q.1, q.2.1, hx, q.2.2.2⟩
    · rw [if_neg hk0]
      refine ⟨q.1, q.2.1, q.2.2.1, ?_⟩
      show (if ar P (cl P j).2.1 = 2 then okA (ar P (cl P j).1) x = true else x = 0)
      rw [hto, if_pos (by omega)]
      exact hx
  · rw [if_neg hj2]
    exact q
theorem takes_spec {P : Pg} (hW : WF P) {c k x : Int32} (h : takesB P c k x = true) : ∃ n m y, c = nI n ∧ n < P.2.length ∧ k = nI m ∧ m < ar P (to P n) ∧ x = nI y ∧ y < 500 ∧ okA (ar P (fr P n)) y = true := by
  unfold takesB at h
  simp only [Bool.and_eq_true, decide_eq_true_eq] at h
  obtain ⟨n, m, rfl, hn, rfl, hm⟩ := hasA_spec hW h.1
  obtain ⟨y, hy, rfl⟩ := ge0 (Int32.not_lt.mpr h.2.1)
  have h12 := hW.l12
  have h3 := h.2.2
  rw [nI_clamp (show n < 2 ^ 31 by omega), nI_clamp hy] at h3
  exact ⟨n, m, y, rfl, hn, rfl, hm, rfl, okA_lt h3, h3⟩
def anSet (A : Ab) (c k x : Int32) : Int32 := if takesB (aP A) c k x then nI (ag (aP A) c.toNatClampNeg k.toNatClampNeg) else -1
def nxSet (A : Ab) (c k x : Int32) : Ab := if takesB (aP A) c k x then (setA (aP A) c.toNatClampNeg k.toNatClampNeg x.toNatClampNeg, A.2) else A
def sX4_set : SP := fun As f a Q => match As with
  | [.inr (.inr (4, 0, 0)), .inl c, .inl k, .inl x] => ∃ A, RepC f a A ∧ OKA A ∧ ∀ f' a', RepC f' a' (nxSet A c k x) → S5 f a f' a' → Q (some (.inl (anSet A c k x))) f' a'
  | _ => False
def eX4_set : En := (tX4_set, [(210, false, 4, sX1_takes), (150, false, 3, sX1_argumentAt), (214, false, 4, sX1_putArgument)], fdX4, [], 0)
theorem eokX4_set {g : Gm} (hg : GmOK g) : EnvOK g 3 RX4 cX4_set (some .int) eX4_set := ⟨okX4_set, fun _ _ _ _ h => as2_all (P := fun i v => CallOK g 3 RX4 i v.1 v.2.1 v.2.2) (l := eX4_set.2.1) ⟨callV_ok (t := 1) hg (mX1_takes hg) kX1_takes mlX4_210 qX1_takes.1 qX1_takes.2 ⟨by decide, by decide⟩ ⟨_, _, rfl⟩ shX1_takes, callV_ok (t := 1) hg (mX1_argumentAt hg) kX1_argumentAt mlX4_150 qX1_argumentAt.1 qX1_argumentAt.2 ⟨by decide, by decide⟩ ⟨_, _, rfl⟩ shX1_argumentAt, callV_ok (t := 1) hg (mX1_putArgument hg) kX1_putArgument mlX4_214 qX1_putArgument.1 qX1_putArgument.2 ⟨by decide, by decide⟩ ⟨_, _, rfl⟩ shX1_putArgument, trivial⟩ h, fdX4_ok, (fun _ _ h => by cases h), rfl⟩
theorem rX4_set (av : List AV) (f : FF) (a : AA) (post : PT) (h : sX4_set av f a post) (X : XT) (hX : Clo eX4_set post X) : X 0 (padL 5 (ent av)) [] f a := by
  unfold sX4_set at h
  split at h
  · rename_i c k x
    obtain ⟨A, hA, hO, h⟩ := h
    unfold anSet nxSet at h
    refine hX [] 90 _ _ _ _ _ ?_
    refine ⟨aP A, hA.1, hO.1, fun d => ?_, fun d => ?_⟩
    · have d := b2i_n0.mp d
      obtain ⟨n, m, y, rfl, hn, rfl, hm, rfl, hy, hok⟩ := takes_spec hO.1 d
      have h12 := hO.1.l12
      have hat := hO.1.ar_to hn
      simp only [d, if_true, nI_clamp (show n < 2 ^ 31 by omega), nI_clamp (show m < 2 ^ 31 by omega), nI_clamp (show y < 2 ^ 31 by omega)] at h
      refine ⟨n, m, rfl, rfl, by omega, n, m, rfl, rfl, by omega, Or.inr rfl, ?_⟩
      have K := hA.told ((Fr.rf f a 1 0).ua 3 (2 * n + m) (nI y)) (hA.1.stA hn (show m < 2 by omega)) (fun i hi => by rw [upa_s, if_neg (by decide)]; exact hA.2.2.2.2.2.2 0 (by decide) i hi)
      exact pI (h _ _ K.1 K.2) (hA.1.arg hn (by omega)).symm
    · simp only [b2i_e0.mp d, Bool.false_eq_true, if_false] at h
      exact h f a hA (S5.rf f a)
  · exact h.elim
theorem shX4_set : ∀ As f a Q, sX4_set As f a Q → ∃ i r, As = .inr (.inr (4, i, 0)) :: r := by
  intro As f a Q h
  unfold sX4_set at h
  split at h
  · exact ⟨_, _, rfl⟩
  · exact h.elim
theorem mX4_set {g : Gm} (hg : GmOK g) : MetC g yX4_set cX4_set 5 (some .int) 3 sX4_set := by
  refine MetC_of hg eX4_set (eokX4_set hg) (by decide +kernel) (fun av f a post h => ?_) rX4_set
  unfold sX4_set at h
  split at h
  · exact Nat.le_of_ble_eq_true rfl
  · exact h.elim
/-! sheets -/
def ftI (s : Shp) (lane first many : Int32) : Nat := match s with
  | none => 1
  | some (l, n, _) => if nI l = lane then (if first < 0 ∨ nI n - many < first then 2 else 0) else 3
def sX2_faultAt : SP := fun As f a Q => match As with
  | [.inr (.inr (2, p, 0)), .inl x, .inl y, .inl z] => ∃ s, shC (f 2 p) (a 2 p) s ∧ (∀ l n cs, s = some (l, n, cs) → l < 3) ∧ Q (some (.inl (nI (ftI s x y z)))) f a
  | _ => False
def eX2_faultAt : En := (tX2_faultAt, [], fdX2, [], 0)
theorem eokX2_faultAt {g : Gm} (hg : GmOK g) : EnvOK g 0 RX2 cX2_faultAt (some .int) eX2_faultAt := ⟨okX2_faultAt, (fun _ _ _ _ h => by cases h), fdX2_ok, (fun _ _ h => by cases h), rfl⟩
theorem rX2_faultAt (av : List AV) (f : FF) (a : AA) (post : PT) (h : sX2_faultAt av f a post) (X : XT) (hX : Clo eX2_faultAt post X) : X 0 (padL 4 (ent av)) [] f a := by
  unfold sX2_faultAt at h
  split at h
  · rename_i p x y z
    obtain ⟨s, hs, hl, h⟩ := h
    refine hX [] 90 _ _ _ _ _ ?_
    cases s with
    | none =>
      exact ⟨fun d => absurd hs d, fun d => h⟩
    | some q =>
      obtain ⟨l, n, cs⟩ := q
      have hl := hl l n cs rfl
      have e1 : f 2 p 1 = nI l := hs.1
      have e2 : f 2 p 2 = nI n := hs.2.1
      refine ⟨fun d => ⟨fun d1 => ?_, fun d1 => ?_⟩, fun d => ?_⟩
      · rw [e1] at d1
        refine ⟨fun d2 => ?_, fun d2 => ⟨fun d3 => ?_, fun d3 => ?_⟩⟩
        · exact pI h (by unfold ftI; dsimp only; rw [if_pos d1, if_pos (Or.inl d2)]; rfl)
        · have d3 : y ≤ f 2 p 2 - z := d3
          rw [e2] at d3
          exact pI h (by unfold ftI; dsimp only; rw [if_pos d1, if_neg (fun q => q.elim d2 (fun q => absurd d3 (Int32.not_le.mpr q)))]; rfl)
        · have d3 : ¬ y ≤ f 2 p 2 - z := d3
          rw [e2] at d3
          exact pI h (by unfold ftI; dsimp only; rw [if_pos d1, if_pos (Or.inr (Int32.not_le.mp d3))]; rfl)
      · rw [e1] at d1
        exact pI h (by unfold ftI; dsimp only; rw [if_neg d1]; rfl)
      · have d : f 2 p 1 = -1 := d
        rw [e1] at d
        exact absurd (by rw [d]; decide) (nI_pos (show l < 2 ^ 31 by omega))
  · exact h.elim
theorem shX2_faultAt : ∀ As f a Q, sX2_faultAt As f a Q → ∃ i r, As = .inr (.inr (2, i, 0)) :: r := by
  intro As f a Q h
  unfold sX2_faultAt at h
  split at h
  · exact ⟨_, _, rfl⟩
  · exact h.elim
theorem mX2_faultAt {g : Gm} (hg : GmOK g) : MetC g yX2_faultAt cX2_faultAt 4 (some .int) 0 sX2_faultAt := by
  refine MetC_of hg eX2_faultAt (eokX2_faultAt hg) (by decide +kernel) (fun av f a post h => ?_) rX2_faultAt
  unfold sX2_faultAt at h
  split at h
  · exact Nat.le_of_ble_eq_true rfl
  · exact h.elim
def narL (l : Nat) (v : Int32) : Int32 := if l = 0 then v.toInt8.toInt32 else if l = 1 then v.toInt16.toInt32 else v
def sX2_put : SP := fun As f a Q => match As with
  | [.inr (.inr (2, p, 0)), .inl x, .inl v] => ∃ l i, f 2 p 1 = nI l ∧ l < 3 ∧ x = nI i ∧ i < 40 ∧ Q none f (upa a 2 p 0 i (narL l v))
  | _ => False
def eX2_put : En := (tX2_put, [], fdX2, [], 2)
theorem eokX2_put {g : Gm} (hg : GmOK g) : EnvOK g 0 RX2 cX2_put none eX2_put := ⟨okX2_put, (fun _ _ _ _ h => by cases h), fdX2_ok, (fun _ _ h => by cases h), rfl⟩
theorem rX2_put (av : List AV) (f : FF) (a : AA) (post : PT) (h : sX2_put av f a post) (X : XT) (hX : Clo eX2_put post X) : X 0 (padL 3 (ent av)) [] f a := by
  unfold sX2_put at h
  split at h
  · rename_i p x v
    obtain ⟨l, i, e1, hl, rfl, hi, h⟩ := h
    have ci : (nI i).toNatClampNeg = i := nI_clamp (by omega)
    refine hX [] 90 _ _ _ _ _ ?_
    refine ⟨fun d => ⟨fun d2 => ?_, fun d2 => ?_⟩, fun d => ?_⟩
    · rw [e1] at d d2
      have d : ¬ l = 0 := fun z => d (by rw [z]; rfl)
      have d2 : ¬ l = 1 := fun z => d2 (by rw [z]; rfl)
      refine ⟨inA 40 rfl rfl hi (by decide), pV h rfl ?_⟩
      rw [ci]
      simp [narL, d, d2]
    · rw [e1] at d d2
      have d2 : l = 1 := (i_eq (b := 1) rfl rfl (show l < 2 ^ 31 by omega) (by decide)).mp d2
      refine ⟨inA 40 rfl rfl hi (by decide), pV h rfl ?_⟩
      rw [ci]
      simp [narL, d2]
    · rw [e1] at d
      have d : l = 0 := (i_eq (b := 0) rfl rfl (show l < 2 ^ 31 by omega) (by decide)).mp d
      refine ⟨inA 40 rfl rfl hi (by decide), pV h rfl ?_⟩
      rw [ci]
      simp [narL, d]
  · exact h.elim
theorem shX2_put : ∀ As f a Q, sX2_put As f a Q → ∃ i r, As = .inr (.inr (2, i, 0)) :: r := by
  intro As f a Q h
  unfold sX2_put at h
  split at h
  · exact ⟨_, _, rfl⟩
  · exact h.elim
theorem mX2_put {g : Gm} (hg : GmOK g) : MetC g yX2_put cX2_put 3 none 0 sX2_put := by
  refine MetC_of hg eX2_put (eokX2_put hg) (by decide +kernel) (fun av f a post h => ?_) rX2_put
  unfold sX2_put at h
  split at h
  · exact Nat.le_of_ble_eq_true rfl
  · exact h.elim
def sX2_begin : SP := fun As f a Q => match As with
  | [.inr (.inr (2, p, 0)), .inl x, .inl y] => ∃ l n, x = nI l ∧ y = nI n ∧ ∀ f' a', Fr f a f' a' 2 p → shC (f' 2 p) (a' 2 p) (some (l, n, fun _ => 0)) → Q none f' a'
  | _ => False
def eX2_begin : En := (tX2_begin, [(22, true, 2, sJ7_fill_53178)], fdX2, [], 2)
theorem eokX2_begin {g : Gm} (hg : GmOK g) : EnvOK g 1 RX2 cX2_begin none eX2_begin := ⟨okX2_begin, fun _ _ _ _ h => as2_all (P := fun i v => CallOK g 1 RX2 i v.1 v.2.1 v.2.2) (l := eX2_begin.2.1) ⟨callS_ok hg (mJ7_fill_53178 hg) kJ7_fill_53178 mlX2_22 qJ7_fill_53178 ⟨by decide, by decide⟩, trivial⟩ h, fdX2_ok, (fun _ _ h => by cases h), rfl⟩
theorem rX2_begin (av : List AV) (f : FF) (a : AA) (post : PT) (h : sX2_begin av f a post) (X : XT) (hX : Clo eX2_begin post X) : X 0 (padL 3 (ent av)) [] f a := by
  unfold sX2_begin at h
  split at h
  · rename_i p x y
    obtain ⟨l, n, rfl, rfl, h⟩ := h
    refine hX [] 90 _ _ _ _ _ ?_
    refine ⟨Or.inr (Or.inr ⟨rfl, rfl⟩), fun g h1 _ => ?_⟩
    refine h _ _ ((((Fr.rf f a 2 p).uf 1 _).uf 2 _).uA 0 _) ⟨?_, ?_, fun i hi => ?_⟩
    · rw [upf_s, if_neg (by decide), upf_s, if_pos rfl]
    · rw [upf_s, if_pos rfl]
    · rw [upA_s, if_pos rfl]
      exact h1 i hi
  · exact h.elim
theorem shX2_begin : ∀ As f a Q, sX2_begin As f a Q → ∃ i r, As = .inr (.inr (2, i, 0)) :: r := by
  intro As f a Q h
  unfold sX2_begin at h
  split at h
  · exact ⟨_, _, rfl⟩
  · exact h.elim
theorem mX2_begin {g : Gm} (hg : GmOK g) : MetC g yX2_begin cX2_begin 3 none 1 sX2_begin := by
  refine MetC_of hg eX2_begin (eokX2_begin hg) (by decide +kernel) (fun av f a post h => ?_) rX2_begin
  unfold sX2_begin at h
  split at h
  · exact Nat.le_of_ble_eq_true rfl
  · exact h.elim
theorem RepC.shet {f f1 : FF} {a a1 : AA} {A : Ab} (h : RepC f a A) {k : Nat} (hF : Fr f a f1 a1 2 k) {s : Shp} (hR : shC (f1 2 k) (a1 2 k) s) : RepC f1 a1 (aP A, aT A, aFt A, aI A, (fun j => if j = k then s else aS A j), aTn A) ∧ S5 f a f1 a1 := by
  have e : ∀ t i, ¬ (t = 2 ∧ i = k) → f1 t i = f t i ∧ a1 t i = a t i := fun t i h0 => hF t i h0
  have e' : ∀ t i, t ≠ 2 → f1 t i = f t i ∧ a1 t i = a t i := fun t i h0 => hF t i (fun q => h0 q.1)
  refine ⟨⟨?_, ?_, ?_, ?_, ?_, ?_, fun p hp => by rw [(e' 1 p (by decide)).2]; exact h.2.2.2.2.2.2 p hp⟩, e' 5 0 (by decide)⟩
  · rw [(e' 1 0 (by decide)).1, (e' 1 0 (by decide)).2]; exact h.1
  · rw [(e' 3 0 (by decide)).1, (e' 3 0 (by decide)).2]; exact h.2.1
  · intro j hj
    rw [(e' 4 0 (by decide)).2, (e' 1 (2 + j) (by decide)).1, (e' 1 (2 + j) (by decide)).2]
    exact h.2.2.1 j hj
  · intro j hj
    show shC _ _ (if j = k then s else aS A j)
    by_cases hjk : j = k
    · subst hjk
      rw [if_pos rfl]
      exact hR
    · rw [if_neg hjk, (e 2 j (fun q => hjk q.2)).1, (e 2 j (fun q => hjk q.2)).2]
      exact h.2.2.2.1 j hj
  · rw [(e' 4 0 (by decide)).1]; exact h.2.2.2.2.1
  · unfold stC
    rw [(e' 4 0 (by decide)).1, (e' 0 0 (by decide)).1, (e' 0 0 (by decide)).2]
    exact h.2.2.2.2.2.1
def anSheet (k l n : Int32) : Int32 := if (0 ≤ k ∧ k < 4) ∧ (0 ≤ l ∧ l ≤ 2) ∧ n ≤ 40 then (if n < 0 then -14 else 1) else -1
def putS (A : Ab) (k : Nat) (s : Shp) : Ab := (aP A, aT A, aFt A, aI A, (fun j => if j = k then s else aS A j), aTn A)
def nxSheet (A : Ab) (k l n : Int32) : Ab := if ((0 ≤ k ∧ k < 4) ∧ (0 ≤ l ∧ l ≤ 2) ∧ n ≤ 40) ∧ ¬ n < 0 then putS A k.toNatClampNeg (some (l.toNatClampNeg, n.toNatClampNeg, fun _ => 0)) else A
def sX4_sheet : SP := fun As f a Q => match As with
  | [.inr (.inr (4, 0, 0)), .inl k, .inl l, .inl n] => ∃ A, RepC f a A ∧ OKA A ∧ ∀ f' a', RepC f' a' (nxSheet A k l n) → S5 f a f' a' → Q (some (.inl (anSheet k l n))) f' a'
  | _ => False
def eX4_sheet : En := (tX4_sheet, [(248, true, 1, sX4_isSheet), (251, true, 1, sX4_isLane), (254, false, 3, sX2_begin)], fdX4, [], 0)
theorem eokX4_sheet {g : Gm} (hg : GmOK g) : EnvOK g 2 RX4 cX4_sheet (some .int) eX4_sheet := ⟨okX4_sheet, fun _ _ _ _ h => as2_all (P := fun i v => CallOK g 2 RX4 i v.1 v.2.1 v.2.2) (l := eX4_sheet.2.1) ⟨callS_ok hg (mX4_isSheet hg) kX4_isSheet mlX4_248 qX4_isSheet ⟨by decide, by decide⟩, callS_ok hg (mX4_isLane hg) kX4_isLane mlX4_251 qX4_isLane ⟨by decide, by decide⟩, callV_ok (t := 2) hg (mX2_begin hg) kX2_begin mlX4_254 qX2_begin.1 qX2_begin.2 ⟨by decide, by decide⟩ ⟨_, _, rfl⟩ shX2_begin, trivial⟩ h, fdX4_ok, (fun _ _ h => by cases h), rfl⟩
theorem rng {x : Int32} {M : Nat} (hM : M < 2 ^ 31) (h0 : 0 ≤ x) (h : x < nI M) : ∃ n, x = nI n ∧ n < M := by
  obtain ⟨n, hn, rfl⟩ := ge0 (Int32.not_lt.mpr h0)
  exact ⟨n, rfl, (nI_ltI hn hM).mp h⟩
theorem rX4_sheet (av : List AV) (f : FF) (a : AA) (post : PT) (h : sX4_sheet av f a post) (X : XT) (hX : Clo eX4_sheet post X) : X 0 (padL 4 (ent av)) [] f a := by
  unfold sX4_sheet at h
  split at h
  · rename_i k l n
    obtain ⟨A, hA, hO, h⟩ := h
    unfold anSheet nxSheet at h
    refine hX [] 90 _ _ _ _ _ ?_
    refine ⟨fun d => ?_, fun d => ⟨fun d2 => ?_, fun d2 => ⟨fun d3 => ?_, fun d3 => ?_⟩⟩⟩
    · have d := of_decide_eq_false (b2i_e0.mp d)
      rw [if_neg (fun z => d z.1.1), if_neg (fun z => d z.1)] at h
      exact h f a hA (S5.rf f a)
    · have d2 := of_decide_eq_false (b2i_e0.mp d2)
      rw [if_neg (fun z => d2 z.1.2.1), if_neg (fun z => d2 z.2.1)] at h
      exact h f a hA (S5.rf f a)
    · have d := of_decide_eq_true (b2i_n0.mp d)
      have d2 := of_decide_eq_true (b2i_n0.mp d2)
      refine ⟨fun d4 => ?_, fun d4 => ?_⟩
      · rw [if_pos ⟨⟨d, d2, d3⟩, Int32.not_lt.mpr d4⟩, if_pos ⟨d, d2, d3⟩, if_neg (Int32.not_lt.mpr d4)] at h
        obtain ⟨i, rfl, hi⟩ := rng (M := 4) (by decide) d.1 d.2
        obtain ⟨j, hj, rfl⟩ := ge0 (Int32.not_lt.mpr d2.1)
        obtain ⟨m, hm, rfl⟩ := ge0 (Int32.not_lt.mpr d4)
        rw [nI_clamp (show i < 2 ^ 31 by omega), nI_clamp hj, nI_clamp hm] at h
        refine ⟨inA 4 rfl rfl hi (by decide), ?_⟩
        refine ⟨j, m, rfl, rfl, fun f1 a1 hF hs => ?_⟩
        have e0 : 0 + (nI i).toNatClampNeg = i := by rw [nI_clamp (by omega), Nat.zero_add]
        have hF : Fr f a f1 a1 2 (0 + (nI i).toNatClampNeg) := hF
        have hs : shC (f1 2 (0 + (nI i).toNatClampNeg)) (a1 2 (0 + (nI i).toNatClampNeg)) (some (j, m, fun _ => 0)) := hs
        rw [e0] at hF hs
        have K := hA.shet hF hs
        exact h f1 a1 K.1 K.2
      · have d4 := Int32.not_le.mp d4
        rw [if_neg (fun z => z.2 d4), if_pos ⟨d, d2, d3⟩, if_pos d4] at h
        exact h f a hA (S5.rf f a)
    · rw [if_neg (fun z => d3 z.1.2.2), if_neg (fun z => d3 z.2.2)] at h
      exact h f a hA (S5.rf f a)
  · exact h.elim
theorem shX4_sheet : ∀ As f a Q, sX4_sheet As f a Q → ∃ i r, As = .inr (.inr (4, i, 0)) :: r := by
  intro As f a Q h
  unfold sX4_sheet at h
  split at h
  · exact ⟨_, _, rfl⟩
  · exact h.elim
theorem mX4_sheet {g : Gm} (hg : GmOK g) : MetC g yX4_sheet cX4_sheet 4 (some .int) 2 sX4_sheet := by
  refine MetC_of hg eX4_sheet (eokX4_sheet hg) (by decide +kernel) (fun av f a post h => ?_) rX4_sheet
  unfold sX4_sheet at h
  split at h
  · exact Nat.le_of_ble_eq_true rfl
  · exact h.elim

def anLay (A : Ab) (k i : Int32) : Int32 := if 0 ≤ k ∧ k < 4 then (match aS A k.toNatClampNeg with
  | none => -11
  | some (_, n, _) => if 0 ≤ i ∧ i < nI n then 1 else -12) else -1
def nxLay (A : Ab) (k i v : Int32) : Ab := if 0 ≤ k ∧ k < 4 then (match aS A k.toNatClampNeg with
  | none => A
  | some (l, n, cs) => if 0 ≤ i ∧ i < nI n then putS A k.toNatClampNeg (some (l, n, upd cs i.toNatClampNeg (narL l v))) else A) else A
def sX4_lay : SP := fun As f a Q => match As with
  | [.inr (.inr (4, 0, 0)), .inl k, .inl i, .inl v] => ∃ A, RepC f a A ∧ OKA A ∧ ∀ f' a', RepC f' a' (nxLay A k i v) → S5 f a f' a' → Q (some (.inl (anLay A k i))) f' a'
  | _ => False
def eX4_lay : En := (tX4_lay, [(248, true, 1, sX4_isSheet), (260, false, 4, sX2_faultAt), (263, false, 3, sX2_put)], fdX4, [], 0)
theorem eokX4_lay {g : Gm} (hg : GmOK g) : EnvOK g 1 RX4 cX4_lay (some .int) eX4_lay := ⟨okX4_lay, fun _ _ _ _ h => as2_all (P := fun i v => CallOK g 1 RX4 i v.1 v.2.1 v.2.2) (l := eX4_lay.2.1) ⟨callS_ok hg (mX4_isSheet hg) kX4_isSheet mlX4_248 qX4_isSheet ⟨by decide, by decide⟩, callV_ok (t := 2) hg (mX2_faultAt hg) kX2_faultAt mlX4_260 qX2_faultAt.1 qX2_faultAt.2 ⟨by decide, by decide⟩ ⟨_, _, rfl⟩ shX2_faultAt, callV_ok (t := 2) hg (mX2_put hg) kX2_put mlX4_263 qX2_put.1 qX2_put.2 ⟨by decide, by decide⟩ ⟨_, _, rfl⟩ shX2_put, trivial⟩ h, fdX4_ok, (fun _ _ h => by cases h), rfl⟩
theorem sub_lt {n m : Nat} (hn : n < 1000) (hm : m < 2 ^ 31) (z : Nat) (hz : z < 1000) : nI n - nI z < nI m ↔ n < m + z := by
  rw [Int32.lt_iff_toInt_lt, pk_sub_toInt (by omega) (by omega), nI_toInt hm]
  omega
theorem rX4_lay (av : List AV) (f : FF) (a : AA) (post : PT) (h : sX4_lay av f a post) (X : XT) (hX : Clo eX4_lay post X) : X 0 (padL 6 (ent av)) [] f a := by
  unfold sX4_lay at h
  split at h
  · rename_i k i v
    obtain ⟨A, hA, hO, h⟩ := h
    unfold anLay nxLay at h
    refine hX [] 90 _ _ _ _ _ ?_
    refine ⟨fun d => ?_, fun d => ?_⟩
    · have d := of_decide_eq_true (b2i_n0.mp d)
      simp only [if_pos d] at h
      obtain ⟨j, rfl, hj⟩ := rng (M := 4) (by decide) d.1 d.2
      have cj : (nI j).toNatClampNeg = j := nI_clamp (by omega)
      rw [cj] at h
      have hs := hA.2.2.2.1 j hj
      have hl : ∀ l n cs, aS A j = some (l, n, cs) → l < 3 := fun l n cs q => (hO.2.2.2.2.1 j hj l n cs q).1
      have e0 : 0 + (nI j).toNatClampNeg = j := by rw [cj, Nat.zero_add]
      refine ⟨inA 4 rfl rfl hj (by decide), aS A j, by show shC (f 2 (0 + (nI j).toNatClampNeg)) (a 2 (0 + (nI j).toNatClampNeg)) _; rw [e0]; exact hs, hl, ?_⟩
      cases hsh : aS A j with
      | none =>
        rw [hsh] at h
        refine ⟨fun q => absurd (show nI 1 = 0 from q) (by decide), fun q => ?_⟩
        exact pI (h f a hA (S5.rf f a)) (show (-11 : Int32) = -10 - nI 1 by decide)
      | some w =>
        obtain ⟨l, n, cs⟩ := w
        obtain ⟨hl3, hn40⟩ := hO.2.2.2.2.1 j hj l n cs hsh
        rw [hsh] at h hs
        have el : f 2 (0 + (nI j).toNatClampNeg) 1 = nI l := by rw [e0]; exact hs.1
        have hft : ftI (some (l, n, cs)) (f 2 (0 + (nI j).toNatClampNeg) 1) i 1 = if 0 ≤ i ∧ i < nI n then 0 else 2 := by
          unfold ftI
          dsimp only
          rw [if_pos el.symm]
          by_cases hi : i < 0
          · rw [if_pos (Or.inl hi), if_neg (fun z => absurd z.1 (Int32.not_le.mpr hi))]
          · obtain ⟨m, hm, rfl⟩ := ge0 hi
            have : nI n - 1 < nI m ↔ n < m + 1 := sub_lt (n := n) (by omega) hm 1 (by decide)
            have h2 := nI_ltI hm (show n < 2 ^ 31 by omega)
            by_cases hc : m < n
            · rw [if_neg (fun z => z.elim hi (fun z => by have := this.mp z; omega)), if_pos ⟨Int32.not_lt.mp hi, h2.mpr hc⟩]
            · rw [if_pos (Or.inr (this.mpr (by omega))), if_neg (fun z => hc (h2.mp z.2))]
        by_cases hc : 0 ≤ i ∧ i < nI n
        · rw [if_pos hc] at hft
          simp only [if_pos hc] at h
          refine ⟨fun q => ?_, fun q => absurd (show nI (ftI (some (l, n, cs)) (f 2 (0 + (nI j).toNatClampNeg) 1) i 1) = 0 by rw [hft]; rfl) q⟩
          obtain ⟨m, rfl, hm⟩ := rng (show n < 2 ^ 31 by omega) hc.1 hc.2
          rw [nI_clamp (show m < 2 ^ 31 by omega)] at h
          refine ⟨l, m, el, hl3, rfl, by omega, ?_⟩
          have hF : Fr f a f (upa a 2 j 0 m (narL l v)) 2 j := (Fr.rf f a 2 j).ua 0 m _
          have K := hA.shet hF (s := some (l, n, upd cs m (narL l v))) ⟨hs.1, hs.2.1, fun x hx => by
            rw [upa_s, if_pos rfl, upd_s, upd_s]
            by_cases hxm : x = m
            · rw [if_pos hxm, if_pos hxm]
            · rw [if_neg hxm, if_neg hxm]; exact hs.2.2 x hx⟩
          refine pIV (h _ _ K.1 K.2) rfl rfl ?_
          show _ = upa a 2 (0 + (nI j).toNatClampNeg) 0 m (narL l v)
          rw [e0]
        · rw [if_neg hc] at hft
          simp only [if_neg hc] at h
          refine ⟨fun q => ?_, fun q => ?_⟩
          · have q : nI (ftI (some (l, n, cs)) (f 2 (0 + (nI j).toNatClampNeg) 1) i 1) = 0 := q
            rw [hft] at q
            exact absurd q (by decide)
          · refine pI (h f a hA (S5.rf f a)) ?_
            show _ = -10 - nI (ftI (some (l, n, cs)) (f 2 (0 + (nI j).toNatClampNeg) 1) i 1)
            rw [hft]
            rfl
    · have d := of_decide_eq_false (b2i_e0.mp d)
      simp only [if_neg d] at h
      exact h f a hA (S5.rf f a)
  · exact h.elim
theorem shX4_lay : ∀ As f a Q, sX4_lay As f a Q → ∃ i r, As = .inr (.inr (4, i, 0)) :: r := by
  intro As f a Q h
  unfold sX4_lay at h
  split at h
  · exact ⟨_, _, rfl⟩
  · exact h.elim
theorem mX4_lay {g : Gm} (hg : GmOK g) : MetC g yX4_lay cX4_lay 6 (some .int) 1 sX4_lay := by
  refine MetC_of hg eX4_lay (eokX4_lay hg) (by decide +kernel) (fun av f a post h => ?_) rX4_lay
  unfold sX4_lay at h
  split at h
  · exact Nat.le_of_ble_eq_true rfl
  · exact h.elim

/-! images -/
def isI (k : Int32) : Bool := decide (0 ≤ k ∧ k < 2)
def anKeep (A : Ab) (k : Int32) : Int32 := if isI k then b2i (aI A k.toNatClampNeg).isSome else -1
def putI (A : Ab) (k : Nat) : Ab := (aP A, aT A, aFt A, (fun j => if j = k then some (aP A) else aI A j), aS A, aTn A)
def nxKeep (A : Ab) (k : Int32) : Ab := if isI k then putI A k.toNatClampNeg else A
def sX4_keep : SP := fun As f a Q => match As with
  | [.inr (.inr (4, 0, 0)), .inl k] => ∃ A, RepC f a A ∧ OKA A ∧ ∀ f' a', RepC f' a' (nxKeep A k) → S5 f a f' a' → Q (some (.inl (anKeep A k))) f' a'
  | _ => False
def eX4_keep : En := (tX4_keep, [(245, true, 1, sX4_isImage), (97, true, 1, sX4_bit), (73, false, 2, sX1_copy)], fdX4, [], 0)
theorem eokX4_keep {g : Gm} (hg : GmOK g) : EnvOK g 2 RX4 cX4_keep (some .int) eX4_keep := ⟨okX4_keep, fun _ _ _ _ h => as2_all (P := fun i v => CallOK g 2 RX4 i v.1 v.2.1 v.2.2) (l := eX4_keep.2.1) ⟨callS_ok hg (mX4_isImage hg) kX4_isImage mlX4_245 qX4_isImage ⟨by decide, by decide⟩, callS_ok hg (mX4_bit hg) kX4_bit mlX4_97 qX4_bit ⟨by decide, by decide⟩, callV_ok (t := 1) hg (mX1_copy hg) kX1_copy mlX4_73 qX1_copy.1 qX1_copy.2 ⟨by decide, by decide⟩ ⟨_, _, rfl⟩ shX1_copy, trivial⟩ h, fdX4_ok, (fun _ _ h => by cases h), rfl⟩
theorem nar_z1 : vp_nar .boolean 1 = 1 := by decide +kernel
theorem rX4_keep (av : List AV) (f : FF) (a : AA) (post : PT) (h : sX4_keep av f a post) (X : XT) (hX : Clo eX4_keep post X) : X 0 (padL 3 (ent av)) [] f a := by
  unfold sX4_keep at h
  split at h
  · rename_i k
    obtain ⟨A, hA, hO, h⟩ := h
    unfold anKeep nxKeep at h
    refine hX [] 90 _ _ _ _ _ ?_
    refine ⟨fun d => ?_, fun d => ?_⟩
    · have d : isI k = true := b2i_n0.mp d
      simp only [d, if_true] at h
      have d2 := of_decide_eq_true d
      obtain ⟨j, rfl, hj⟩ := rng (M := 2) (by decide) d2.1 d2.2
      have cj : (nI j).toNatClampNeg = j := nI_clamp (by omega)
      rw [cj] at h
      have e2 : (raf 4).2 + (nI j).toNatClampNeg = 2 + j := by rw [cj]; rfl
      refine ⟨inA 2 rfl rfl hj (by decide), inA 2 rfl rfl hj (by decide), (fun z => by rw [e2] at z; omega), fun f1 a1 hF hR hB => ?_⟩
      have hB : AB (a1 1 ((raf 4).2 + (nI j).toNatClampNeg)) := hB (hA.2.2.2.2.2.2 0 (by decide))
      rw [e2] at hB
      have hF : Fr f a f1 a1 1 ((raf 4).2 + (nI j).toNatClampNeg) := hF
      rw [e2] at hF
      have hR := hR (aP A) hO.1 hA.1
      have hR : RC (f1 1 ((raf 4).2 + (nI j).toNatClampNeg)) (a1 1 ((raf 4).2 + (nI j).toNatClampNeg)) (aP A) := hR
      rw [e2] at hR
      refine ⟨inA 2 rfl rfl hj (by decide), ?_⟩
      have e : ∀ t i, ¬ (t = 1 ∧ i = 2 + j) → f1 t i = f t i ∧ a1 t i = a t i := hF
      have ea : ∀ t i, t ≠ 4 → upa a1 4 0 5 j 1 t i = a1 t i := fun t i ht => upa_o _ _ (fun q => ht q.1)
      have K : RepC f1 (upa a1 4 0 5 j 1) (putI A j) := by
        refine ⟨?_, ?_, ?_, ?_, ?_, ?_, fun p hp => ?_⟩
        · rw [ea 1 0 (by decide), (e 1 0 (by omega)).1, (e 1 0 (by omega)).2]; exact hA.1
        · rw [ea 3 0 (by decide), (e 3 0 (by omega)).1, (e 3 0 (by omega)).2]; exact hA.2.1
        · intro q hq
          have hq1 := hA.2.2.1 q hq
          refine ⟨?_, fun P hP => ?_⟩
          · rw [upa_s, if_pos rfl, upd_s]
            show _ = b2i (if q = j then some (aP A) else aI A q).isSome
            by_cases hqj : q = j
            · rw [if_pos hqj, if_pos hqj]; rfl
            · rw [if_neg hqj, if_neg hqj, (e 4 0 (by omega)).2]; exact hq1.1
          · have hP : (if q = j then some (aP A) else aI A q) = some P := hP
            rw [ea 1 (2 + q) (by decide)]
            by_cases hqj : q = j
            · rw [if_pos hqj] at hP
              cases hP
              rw [hqj]
              exact hR
            · rw [if_neg hqj] at hP
              rw [(e 1 (2 + q) (by omega)).1, (e 1 (2 + q) (by omega)).2]
              exact hq1.2 P hP
        · intro q hq
          rw [ea 2 q (by decide), (e 2 q (by omega)).1, (e 2 q (by omega)).2]
          exact hA.2.2.2.1 q hq
        · rw [(e 4 0 (by omega)).1]; exact hA.2.2.2.2.1
        · unfold stC
          rw [ea 0 0 (by decide), (e 4 0 (by omega)).1, (e 0 0 (by omega)).1, (e 0 0 (by omega)).2]
          exact hA.2.2.2.2.2.1
        · rw [ea 1 p (by decide)]
          by_cases hpj : p = 2 + j
          · rw [hpj]; exact hB
          · rw [(e 1 p (fun q => hpj q.2)).2]; exact hA.2.2.2.2.2.2 p hp
      have S : S5 f a f1 (upa a1 4 0 5 j 1) := ⟨(e 5 0 (by omega)).1, by rw [ea 5 0 (by decide)]; exact (e 5 0 (by omega)).2⟩
      refine pIV (h _ _ K S) ?_ rfl ?_
      · rw [cj, (hA.2.2.1 j hj).1, b2i_b]
      · rw [cj, nar_z1]
    · have d : isI k = false := b2i_e0.mp d
      simp only [d, Bool.false_eq_true, if_false] at h
      exact h f a hA (S5.rf f a)
  · exact h.elim
theorem shX4_keep : ∀ As f a Q, sX4_keep As f a Q → ∃ i r, As = .inr (.inr (4, i, 0)) :: r := by
  intro As f a Q h
  unfold sX4_keep at h
  split at h
  · exact ⟨_, _, rfl⟩
  · exact h.elim
theorem mX4_keep {g : Gm} (hg : GmOK g) : MetC g yX4_keep cX4_keep 3 (some .int) 2 sX4_keep := by
  refine MetC_of hg eX4_keep (eokX4_keep hg) (by decide +kernel) (fun av f a post h => ?_) rX4_keep
  unfold sX4_keep at h
  split at h
  · exact Nat.le_of_ble_eq_true rfl
  · exact h.elim
def anBack (A : Ab) (k : Int32) : Int32 := if isI k then (match aI A k.toNatClampNeg with
  | some P => nI P.2.length
  | none => -2) else -1
def nxBack (A : Ab) (k : Int32) : Ab := if isI k then (match aI A k.toNatClampNeg with
  | some P => (P, A.2)
  | none => A) else A
def sX4_back : SP := fun As f a Q => match As with
  | [.inr (.inr (4, 0, 0)), .inl k] => ∃ A, RepC f a A ∧ OKA A ∧ ∀ f' a', RepC f' a' (nxBack A k) → S5 f a f' a' → Q (some (.inl (anBack A k))) f' a'
  | _ => False
def eX4_back : En := (tX4_back, [(245, true, 1, sX4_isImage), (73, false, 2, sX1_copy)], fdX4, [], 0)
theorem eokX4_back {g : Gm} (hg : GmOK g) : EnvOK g 2 RX4 cX4_back (some .int) eX4_back := ⟨okX4_back, fun _ _ _ _ h => as2_all (P := fun i v => CallOK g 2 RX4 i v.1 v.2.1 v.2.2) (l := eX4_back.2.1) ⟨callS_ok hg (mX4_isImage hg) kX4_isImage mlX4_245 qX4_isImage ⟨by decide, by decide⟩, callV_ok (t := 1) hg (mX1_copy hg) kX1_copy mlX4_73 qX1_copy.1 qX1_copy.2 ⟨by decide, by decide⟩ ⟨_, _, rfl⟩ shX1_copy, trivial⟩ h, fdX4_ok, (fun _ _ h => by cases h), rfl⟩
theorem rX4_back (av : List AV) (f : FF) (a : AA) (post : PT) (h : sX4_back av f a post) (X : XT) (hX : Clo eX4_back post X) : X 0 (padL 2 (ent av)) [] f a := by
  unfold sX4_back at h
  split at h
  · rename_i k
    obtain ⟨A, hA, hO, h⟩ := h
    unfold anBack nxBack at h
    refine hX [] 90 _ _ _ _ _ ?_
    refine ⟨fun d => ?_, fun d => ?_⟩
    · have d : isI k = true := b2i_n0.mp d
      simp only [d, if_true] at h
      have d2 := of_decide_eq_true d
      obtain ⟨j, rfl, hj⟩ := rng (M := 2) (by decide) d2.1 d2.2
      have cj : (nI j).toNatClampNeg = j := nI_clamp (by omega)
      rw [cj] at h
      have hI := hA.2.2.1 j hj
      have e2 : (raf 4).2 + (nI j).toNatClampNeg = 2 + j := by rw [cj]; rfl
      refine ⟨inA 2 rfl rfl hj (by decide), ?_⟩
      rw [cj, hI.1]
      cases hsh : aI A j with
      | none =>
        rw [hsh] at h
        exact ⟨fun q => absurd rfl q, fun q => h f a hA (S5.rf f a)⟩
      | some P =>
        rw [hsh] at h
        have hWP := hO.2.2.2.1 j hj P hsh
        refine ⟨fun q => ?_, fun q => absurd (show (1 : Int32) = 0 from q) (by decide)⟩
        refine ⟨inA 2 rfl rfl hj (by decide), (fun z => by rw [e2] at z; omega), fun f1 a1 hF hR hB => ?_⟩
        have hB : AB (a1 1 0) := hB (by rw [e2]; exact hA.2.2.2.2.2.2 (2 + j) (by omega))
        have hR : ∀ P, WF P → RC (f 1 ((raf 4).2 + (nI j).toNatClampNeg)) (a 1 ((raf 4).2 + (nI j).toNatClampNeg)) P → RC (f1 1 0) (a1 1 0) P := hR
        rw [e2] at hR
        have hR := hR P hWP (hI.2 P hsh)
        have K := hA.told hF hR hB
        refine ⟨Or.inr rfl, ?_⟩
        refine pI (h _ _ K.1 K.2) ?_
        show _ = upf f1 4 0 7 1 1 0 5
        rw [upf_o _ _ (by decide)]
        exact hR.2.1.symm
    · have d : isI k = false := b2i_e0.mp d
      simp only [d, Bool.false_eq_true, if_false] at h
      exact h f a hA (S5.rf f a)
  · exact h.elim
theorem shX4_back : ∀ As f a Q, sX4_back As f a Q → ∃ i r, As = .inr (.inr (4, i, 0)) :: r := by
  intro As f a Q h
  unfold sX4_back at h
  split at h
  · exact ⟨_, _, rfl⟩
  · exact h.elim
theorem mX4_back {g : Gm} (hg : GmOK g) : MetC g yX4_back cX4_back 2 (some .int) 2 sX4_back := by
  refine MetC_of hg eX4_back (eokX4_back hg) (by decide +kernel) (fun av f a post h => ?_) rX4_back
  unfold sX4_back at h
  split at h
  · exact Nat.le_of_ble_eq_true rfl
  · exact h.elim
