/-! Graphs: what the rows hold -/
def fI (r : Option Nat) : Int32 := match r with
  | none => -1
  | some g => nI g
def idleK (i t c : Nat) : Bool := decide (i = t) && decide (compN c c = c)
def loopK (i t c : Nat) : Bool := decide (fallN c = 0) && idleK i t c
def loopE (e : Gr) : Bool := loopK e.1 e.2.1 e.2.2.1
def loopC (L : List Gr) : Nat := cnt (fun g => loopE (ge L g)) L.length
def comeN (L : List Gr) (i : Nat) : Nat := L.foldl (fun m e => if e.1 = i then m ||| 2 ^ e.2.1 else m) 0
def GE (w : Nat → Nat → Int32) (g : Nat) (e : Gr) : Prop := w 0 g = nI (bitsN e.2.2.1) ∧ w 6 g = nI (3 * e.1 + e.2.1) ∧ w 7 g = fI e.2.2.2.1 ∧ w 8 g = nI e.2.2.2.2.1 ∧ w 1 g = nI e.2.2.2.2.2.1 ∧ w 9 g = nI e.2.2.2.2.2.2
def GR (u : Nat → Int32) (w : Nat → Nat → Int32) (L : List Gr) : Prop := u 4 = nI L.length ∧ u 5 = nI (loopC L) ∧ (∀ g, g < L.length → GE w g (ge L g)) ∧ (∀ q, q < 729 → w 10 q = fI (fnd L q)) ∧ ∀ i, i < 3 → w 3 i = nI (comeN L i)
theorem bits_inj {c d : Nat} (hc : c < 81) (hd : d < 81) (h : nI (bitsN c) = nI (bitsN d)) : c = d := by
  have h1 := pow_sum c hc
  rw [h, pow_sum d hd] at h1
  exact ((nI_eq (by omega) (by omega)).mp h1).symm
theorem fall_i : ∀ c, c < 81 → ((nI (bitsN c) >>> ((4 : Int32) &&& 31)) &&& 1) ||| ((nI (bitsN c) >>> ((6 : Int32) &&& 31)) &&& 2) = nI (fallN c) := by decide +kernel
theorem fall_lt (c : Nat) : fallN c < 4 := by
  unfold fallN
  split <;> split <;> decide
def sX0_fromOf : SP := fun As f a Q => match As with
  | [.inr (.inr (0, p, 0)), .inl x] => ∃ n i t, x = nI n ∧ n < 729 ∧ a 0 p 6 n = nI (3 * i + t) ∧ i < 3 ∧ t < 3 ∧ Q (some (.inl (nI i))) f a
  | _ => False
def eX0_fromOf : En := (tX0_fromOf, [], fdX0, [], 0)
theorem eokX0_fromOf {g : Gm} (hg : GmOK g) : EnvOK g 0 RX0 cX0_fromOf (some .int) eX0_fromOf := ⟨okX0_fromOf, (fun _ _ _ _ h => by cases h), fdX0_ok, (fun _ _ h => by cases h), rfl⟩
theorem rX0_fromOf (av : List AV) (f : FF) (a : AA) (post : PT) (h : sX0_fromOf av f a post) (X : XT) (hX : Clo eX0_fromOf post X) : X 0 (padL 2 (ent av)) [] f a := by
  unfold sX0_fromOf at h
  split at h
  · obtain ⟨n, i, t, rfl, hn, e, hi, ht, h⟩ := h
    refine hX [] 20 _ _ _ _ _ ?_
    refine ⟨inA 729 rfl rfl hn (by decide), by decide, pI h ?_⟩
    dsimp only
    rw [nI_clamp (by omega), e, show (3 : Int32) = nI 3 from rfl, pk_div (by omega) (by decide) (by decide)]
    congr 1
    omega
  · exact h.elim
theorem shX0_fromOf : ∀ As f a Q, sX0_fromOf As f a Q → ∃ i r, As = .inr (.inr (0, i, 0)) :: r := by
  intro As f a Q h
  unfold sX0_fromOf at h
  split at h
  · exact ⟨_, _, rfl⟩
  · exact h.elim
theorem mX0_fromOf {g : Gm} (hg : GmOK g) : MetC g yX0_fromOf cX0_fromOf 2 (some .int) 0 sX0_fromOf := by
  refine MetC_of hg eX0_fromOf (eokX0_fromOf hg) (by decide +kernel) (fun av f a post h => ?_) rX0_fromOf
  unfold sX0_fromOf at h
  split at h
  · exact Nat.le_of_ble_eq_true rfl
  · exact h.elim
def sX0_toOf : SP := fun As f a Q => match As with
  | [.inr (.inr (0, p, 0)), .inl x] => ∃ n i t, x = nI n ∧ n < 729 ∧ a 0 p 6 n = nI (3 * i + t) ∧ i < 3 ∧ t < 3 ∧ Q (some (.inl (nI t))) f a
  | _ => False
def eX0_toOf : En := (tX0_toOf, [], fdX0, [], 0)
theorem eokX0_toOf {g : Gm} (hg : GmOK g) : EnvOK g 0 RX0 cX0_toOf (some .int) eX0_toOf := ⟨okX0_toOf, (fun _ _ _ _ h => by cases h), fdX0_ok, (fun _ _ h => by cases h), rfl⟩
theorem rX0_toOf (av : List AV) (f : FF) (a : AA) (post : PT) (h : sX0_toOf av f a post) (X : XT) (hX : Clo eX0_toOf post X) : X 0 (padL 2 (ent av)) [] f a := by
  unfold sX0_toOf at h
  split at h
  · obtain ⟨n, i, t, rfl, hn, e, hi, ht, h⟩ := h
    refine hX [] 20 _ _ _ _ _ ?_
    refine ⟨inA 729 rfl rfl hn (by decide), by decide, pI h ?_⟩
    dsimp only
    rw [nI_clamp (by omega), e, show (3 : Int32) = nI 3 from rfl, pk_rem (by omega) (by decide) (by decide)]
    congr 1
    omega
  · exact h.elim
theorem shX0_toOf : ∀ As f a Q, sX0_toOf As f a Q → ∃ i r, As = .inr (.inr (0, i, 0)) :: r := by
  intro As f a Q h
  unfold sX0_toOf at h
  split at h
  · exact ⟨_, _, rfl⟩
  · exact h.elim
theorem mX0_toOf {g : Gm} (hg : GmOK g) : MetC g yX0_toOf cX0_toOf 2 (some .int) 0 sX0_toOf := by
  refine MetC_of hg eX0_toOf (eokX0_toOf hg) (by decide +kernel) (fun av f a post h => ?_) rX0_toOf
  unfold sX0_toOf at h
  split at h
  · exact Nat.le_of_ble_eq_true rfl
  · exact h.elim
def sX0_at : SP := fun As f a Q => match As with
  | [.inr (.inr (0, p, 0)), .inl x, .inl y, .inl z] => ∃ i j c, x = nI i ∧ y = nI j ∧ z = nI c ∧ i < 3 ∧ j < 3 ∧ c < 81 ∧ Q (some (.inl (a 0 p 10 (pl i j c)))) f a
  | _ => False
def eX0_at : En := (tX0_at, [(90, true, 3, sX0_placeOf)], fdX0, [], 0)
theorem eokX0_at {g : Gm} (hg : GmOK g) : EnvOK g 1 RX0 cX0_at (some .int) eX0_at := ⟨okX0_at, fun _ _ _ _ h => as2_all (P := fun i v => CallOK g 1 RX0 i v.1 v.2.1 v.2.2) (l := eX0_at.2.1) ⟨callS_ok hg (mX0_placeOf hg) kX0_placeOf mlX0_90 qX0_placeOf ⟨by decide, by decide⟩, trivial⟩ h, fdX0_ok, (fun _ _ h => by cases h), rfl⟩
theorem rX0_at (av : List AV) (f : FF) (a : AA) (post : PT) (h : sX0_at av f a post) (X : XT) (hX : Clo eX0_at post X) : X 0 (padL 4 (ent av)) [] f a := by
  unfold sX0_at at h
  split at h
  · obtain ⟨i, j, c, rfl, rfl, rfl, hi, hj, hc, h⟩ := h
    have hp := pl_lt hi hj hc
    refine hX [] 20 _ _ _ _ _ ?_
    refine ⟨i, j, c, rfl, rfl, rfl, inA 729 rfl rfl hp (by decide), pI h ?_⟩
    rw [nI_clamp (by omega)]
  · exact h.elim
theorem shX0_at : ∀ As f a Q, sX0_at As f a Q → ∃ i r, As = .inr (.inr (0, i, 0)) :: r := by
  intro As f a Q h
  unfold sX0_at at h
  split at h
  · exact ⟨_, _, rfl⟩
  · exact h.elim
theorem mX0_at {g : Gm} (hg : GmOK g) : MetC g yX0_at cX0_at 4 (some .int) 1 sX0_at := by
  refine MetC_of hg eX0_at (eokX0_at hg) (by decide +kernel) (fun av f a post h => ?_) rX0_at
  unfold sX0_at at h
  split at h
  · exact Nat.le_of_ble_eq_true rfl
  · exact h.elim
def sX0_fallsIn : SP := fun As f a Q => match As with
  | [.inr (.inr (0, p, 0)), .inl x] => ∃ n c, x = nI n ∧ n < 729 ∧ a 0 p 0 n = nI (bitsN c) ∧ c < 81 ∧ Q (some (.inl (nI (fallN c)))) f a
  | _ => False
def eX0_fallsIn : En := (tX0_fallsIn, [], fdX0, [], 0)
theorem eokX0_fallsIn {g : Gm} (hg : GmOK g) : EnvOK g 0 RX0 cX0_fallsIn (some .int) eX0_fallsIn := ⟨okX0_fallsIn, (fun _ _ _ _ h => by cases h), fdX0_ok, (fun _ _ h => by cases h), rfl⟩
theorem rX0_fallsIn (av : List AV) (f : FF) (a : AA) (post : PT) (h : sX0_fallsIn av f a post) (X : XT) (hX : Clo eX0_fallsIn post X) : X 0 (padL 2 (ent av)) [] f a := by
  unfold sX0_fallsIn at h
  split at h
  · obtain ⟨n, c, rfl, hn, e, hc, h⟩ := h
    refine hX [] 40 _ _ _ _ _ ?_
    refine ⟨inA 729 rfl rfl hn (by decide), inA 729 rfl rfl hn (by decide), pI h ?_⟩
    dsimp only
    rw [nI_clamp (by omega), e]
    exact (fall_i c hc).symm
  · exact h.elim
theorem shX0_fallsIn : ∀ As f a Q, sX0_fallsIn As f a Q → ∃ i r, As = .inr (.inr (0, i, 0)) :: r := by
  intro As f a Q h
  unfold sX0_fallsIn at h
  split at h
  · exact ⟨_, _, rfl⟩
  · exact h.elim
theorem mX0_fallsIn {g : Gm} (hg : GmOK g) : MetC g yX0_fallsIn cX0_fallsIn 2 (some .int) 0 sX0_fallsIn := by
  refine MetC_of hg eX0_fallsIn (eokX0_fallsIn hg) (by decide +kernel) (fun av f a post h => ?_) rX0_fallsIn
  unfold sX0_fallsIn at h
  split at h
  · exact Nat.le_of_ble_eq_true rfl
  · exact h.elim
def sX0_isIdle : SP := fun As f a Q => match As with
  | [.inr (.inr (0, p, 0)), .inl x] => ∃ n i t c, x = nI n ∧ n < 729 ∧ a 0 p 6 n = nI (3 * i + t) ∧ i < 3 ∧ t < 3 ∧ a 0 p 0 n = nI (bitsN c) ∧ c < 81 ∧ Q (some (.inl (b2i (idleK i t c)))) f a
  | _ => False
def eX0_isIdle : En := (tX0_isIdle, [(78, false, 2, sX0_fromOf), (71, false, 2, sX0_toOf), (74, true, 2, sX0_composed)], fdX0, [], 1)
theorem eokX0_isIdle {g : Gm} (hg : GmOK g) : EnvOK g 1 RX0 cX0_isIdle (some .boolean) eX0_isIdle := ⟨okX0_isIdle, fun _ _ _ _ h => as2_all (P := fun i v => CallOK g 1 RX0 i v.1 v.2.1 v.2.2) (l := eX0_isIdle.2.1) ⟨callV_ok (t := 0) hg (mX0_fromOf hg) kX0_fromOf mlX0_78 qX0_fromOf.1 qX0_fromOf.2 ⟨by decide, by decide⟩ ⟨_, _, rfl⟩ shX0_fromOf, callV_ok (t := 0) hg (mX0_toOf hg) kX0_toOf mlX0_71 qX0_toOf.1 qX0_toOf.2 ⟨by decide, by decide⟩ ⟨_, _, rfl⟩ shX0_toOf, callS_ok hg (mX0_composed hg) kX0_composed mlX0_74 qX0_composed ⟨by decide, by decide⟩, trivial⟩ h, fdX0_ok, (fun _ _ h => by cases h), rfl⟩
theorem rX0_isIdle (av : List AV) (f : FF) (a : AA) (post : PT) (h : sX0_isIdle av f a post) (X : XT) (hX : Clo eX0_isIdle post X) : X 0 (padL 2 (ent av)) [] f a := by
  unfold sX0_isIdle at h
  split at h
  · obtain ⟨n, i, t, c, rfl, hn, e, hi, ht, e2, hc, h⟩ := h
    refine hX [] 40 _ _ _ _ _ ?_
    have cl : (nI n).toNatClampNeg = n := nI_clamp (by omega)
    refine ⟨n, i, t, rfl, hn, e, hi, ht, n, i, t, rfl, hn, e, hi, ht, fun q => ?_, fun q => ?_⟩
    · have q : ¬ i = t := fun z => q (by rw [z])
      exact pF h (by simp [idleK, q])
    · have q : i = t := (nI_eq (by omega) (by omega)).mp q
      refine ⟨inA 729 rfl rfl hn (by decide), inA 729 rfl rfl hn (by decide), c, c, hc, hc, by rw [cl]; exact e2, by rw [cl]; exact e2, inA 729 rfl rfl hn (by decide), fun d => ?_, fun d => ?_⟩
      · rw [cl, e2] at d
        have d : ¬ compN c c = c := fun z => d (by rw [z])
        exact pF h (by simp [idleK, d])
      · rw [cl, e2] at d
        exact pT h (by simp [idleK, q, bits_inj (compN_lt c c) hc d])
  · exact h.elim
theorem shX0_isIdle : ∀ As f a Q, sX0_isIdle As f a Q → ∃ i r, As = .inr (.inr (0, i, 0)) :: r := by
  intro As f a Q h
  unfold sX0_isIdle at h
  split at h
  · exact ⟨_, _, rfl⟩
  · exact h.elim
theorem mX0_isIdle {g : Gm} (hg : GmOK g) : MetC g yX0_isIdle cX0_isIdle 2 (some .boolean) 1 sX0_isIdle := by
  refine MetC_of hg eX0_isIdle (eokX0_isIdle hg) (by decide +kernel) (fun av f a post h => ?_) rX0_isIdle
  unfold sX0_isIdle at h
  split at h
  · exact Nat.le_of_ble_eq_true rfl
  · exact h.elim
def sX0_isLoop : SP := fun As f a Q => match As with
  | [.inr (.inr (0, p, 0)), .inl x] => ∃ n i t c, x = nI n ∧ n < 729 ∧ a 0 p 6 n = nI (3 * i + t) ∧ i < 3 ∧ t < 3 ∧ a 0 p 0 n = nI (bitsN c) ∧ c < 81 ∧ Q (some (.inl (b2i (loopK i t c)))) f a
  | _ => False
def eX0_isLoop : En := (tX0_isLoop, [(102, false, 2, sX0_fallsIn), (105, false, 2, sX0_isIdle)], fdX0, [], 1)
theorem eokX0_isLoop {g : Gm} (hg : GmOK g) : EnvOK g 2 RX0 cX0_isLoop (some .boolean) eX0_isLoop := ⟨okX0_isLoop, fun _ _ _ _ h => as2_all (P := fun i v => CallOK g 2 RX0 i v.1 v.2.1 v.2.2) (l := eX0_isLoop.2.1) ⟨callV_ok (t := 0) hg (mX0_fallsIn hg) kX0_fallsIn mlX0_102 qX0_fallsIn.1 qX0_fallsIn.2 ⟨by decide, by decide⟩ ⟨_, _, rfl⟩ shX0_fallsIn, callV_ok (t := 0) hg (mX0_isIdle hg) kX0_isIdle mlX0_105 qX0_isIdle.1 qX0_isIdle.2 ⟨by decide, by decide⟩ ⟨_, _, rfl⟩ shX0_isIdle, trivial⟩ h, fdX0_ok, (fun _ _ h => by cases h), rfl⟩
theorem rX0_isLoop (av : List AV) (f : FF) (a : AA) (post : PT) (h : sX0_isLoop av f a post) (X : XT) (hX : Clo eX0_isLoop post X) : X 0 (padL 2 (ent av)) [] f a := by
  unfold sX0_isLoop at h
  split at h
  · obtain ⟨n, i, t, c, rfl, hn, e, hi, ht, e2, hc, h⟩ := h
    have hfl := fall_lt c
    refine hX [] 40 _ _ _ _ _ ?_
    refine ⟨n, c, rfl, hn, e2, hc, fun q => ?_, fun q => ?_⟩
    · have q : ¬ fallN c = 0 := fun z => q (by rw [z]; rfl)
      exact pF h (by simp [loopK, q])
    · have q : fallN c = 0 := (i_eq (b := 0) rfl rfl (by omega) (by decide)).mp q
      refine ⟨n, i, t, c, rfl, hn, e, hi, ht, e2, hc, fun d => ?_, fun d => ?_⟩
      · exact pF h (by simp [loopK, b2i_e0.mp d])
      · exact pT h (by simp [loopK, q, b2i_n0.mp d])
  · exact h.elim
theorem shX0_isLoop : ∀ As f a Q, sX0_isLoop As f a Q → ∃ i r, As = .inr (.inr (0, i, 0)) :: r := by
  intro As f a Q h
  unfold sX0_isLoop at h
  split at h
  · exact ⟨_, _, rfl⟩
  · exact h.elim
theorem mX0_isLoop {g : Gm} (hg : GmOK g) : MetC g yX0_isLoop cX0_isLoop 2 (some .boolean) 2 sX0_isLoop := by
  refine MetC_of hg eX0_isLoop (eokX0_isLoop hg) (by decide +kernel) (fun av f a post h => ?_) rX0_isLoop
  unfold sX0_isLoop at h
  split at h
  · exact Nat.le_of_ble_eq_true rfl
  · exact h.elim
def sX0_forget : SP := fun As f a Q => match As with
  | [.inr (.inr (0, p, 0))] => ∀ f' a', Fr f a f' a' 0 p → GR (f' 0 p) (a' 0 p) [] → Q none f' a'
  | _ => False
def eX0_forget : En := (tX0_forget, [(81, true, 2, sJ7_fill_53178)], fdX0, [], 2)
theorem eokX0_forget {g : Gm} (hg : GmOK g) : EnvOK g 1 RX0 cX0_forget none eX0_forget := ⟨okX0_forget, fun _ _ _ _ h => as2_all (P := fun i v => CallOK g 1 RX0 i v.1 v.2.1 v.2.2) (l := eX0_forget.2.1) ⟨callS_ok hg (mJ7_fill_53178 hg) kJ7_fill_53178 mlX0_81 qJ7_fill_53178 ⟨by decide, by decide⟩, trivial⟩ h, fdX0_ok, (fun _ _ h => by cases h), rfl⟩
theorem rX0_forget (av : List AV) (f : FF) (a : AA) (post : PT) (h : sX0_forget av f a post) (X : XT) (hX : Clo eX0_forget post X) : X 0 (padL 1 (ent av)) [] f a := by
  unfold sX0_forget at h
  split at h
  · rename_i p
    refine hX [] 40 _ _ _ _ _ ?_
    refine ⟨Or.inl ⟨rfl, rfl⟩, fun g1 h1 _ => ⟨Or.inr (Or.inl ⟨rfl, rfl⟩), fun g2 h2 _ => ?_⟩⟩
    refine h _ _ (((((Fr.rf f a 0 p).uf 4 _).uf 5 _).uA 10 _).uA 3 _) ⟨?_, ?_, fun g hg => ?_, fun q hq => ?_, fun i hi => ?_⟩
    · rw [upf_s, if_neg (by decide), upf_s, if_pos rfl]; rfl
    · rw [upf_s, if_pos rfl]; rfl
    · exact absurd hg (Nat.not_lt_zero g)
    · rw [upA_s, if_neg (by decide), upA_s, if_pos rfl, h1 q hq]; rfl
    · rw [upA_s, if_pos rfl, h2 i hi]; rfl
  · exact h.elim
theorem shX0_forget : ∀ As f a Q, sX0_forget As f a Q → ∃ i r, As = .inr (.inr (0, i, 0)) :: r := by
  intro As f a Q h
  unfold sX0_forget at h
  split at h
  · exact ⟨_, _, rfl⟩
  · exact h.elim
theorem mX0_forget {g : Gm} (hg : GmOK g) : MetC g yX0_forget cX0_forget 1 none 1 sX0_forget := by
  refine MetC_of hg eX0_forget (eokX0_forget hg) (by decide +kernel) (fun av f a post h => ?_) rX0_forget
  unfold sX0_forget at h
  split at h
  · exact Nat.le_of_ble_eq_true rfl
  · exact h.elim
theorem shl_t : ∀ t, t < 12 → (1 : Int32) <<< (nI t &&& 31) = nI (2 ^ t) := by decide +kernel
/-- a new graph comes into the rows -/
def mtA (a : AA) (p g q : Nat) (xb xe xh xl xw xm : Int32) (i : Nat) (xc : Int32) : AA := upa (upa (upa (upa (upa (upa (upa (upa a 0 p 10 q (nI g)) 0 p 0 g xb) 0 p 6 g xe) 0 p 7 g xh) 0 p 8 g xl) 0 p 1 g xw) 0 p 9 g xm) 0 p 3 i xc
theorem mtA_fr (f : FF) (a : AA) (p g q : Nat) (xb xe xh xl xw xm : Int32) (i : Nat) (xc : Int32) : Fr f a f (mtA a p g q xb xe xh xl xw xm i xc) 0 p := ((((((((Fr.rf f a 0 p).ua 10 _ _).ua 0 _ _).ua 6 _ _).ua 7 _ _).ua 8 _ _).ua 1 _ _).ua 9 _ _).ua 3 _ _
theorem come_app (L : List Gr) (e : Gr) (i : Nat) : comeN (L ++ [e]) i = if e.1 = i then comeN L i ||| 2 ^ e.2.1 else comeN L i := by
  unfold comeN
  rw [List.foldl_append]
  rfl
theorem cnt_cong {p q : Nat → Bool} : ∀ {n : Nat}, (∀ k, k < n → p k = q k) → cnt p n = cnt q n
  | 0, _ => rfl
  | n + 1, h => by rw [cnt, cnt, cnt_cong (fun k hk => h k (by omega)), h n (by omega)]
theorem loopC_app (L : List Gr) (e : Gr) : nI (loopC (L ++ [e])) = nI (loopC L) + b2i (loopE e) := by
  unfold loopC
  rw [List.length_append, show [e].length = 1 from rfl, cnt_s, ge_last]
  rw [cnt_cong (q := fun g => loopE (ge L g)) (fun k hk => by rw [ge_app hk])]
theorem GR_new {f : FF} {a : AA} {p : Nat} {L : List Gr} (h : GR (f 0 p) (a 0 p) L) {i t c la : Nat} {ah : Option Nat} (hi : i < 3) (ht : t < 3) (hc : c < 81) (hn : fnd L (pl i t c) = none) (f' : FF) (h4 : f' 0 p 4 = nI (L.length + 1)) (h5 : f' 0 p 5 = nI (loopC L) + b2i (loopK i t c)) :
    GR (f' 0 p) (mtA a p L.length (pl i t c) (nI (bitsN c)) (nI (3 * i + t)) (fI ah) (nI la) (nI (newE L i t c ah la).2.2.2.2.2.1) (nI (newE L i t c ah la).2.2.2.2.2.2) i (nI (comeN L i ||| 2 ^ t)) 0 p) (L ++ [newE L i t c ah la]) := by
  unfold mtA
  refine ⟨?_, ?_, fun g hg => ?_, fun q hq => ?_, fun j hj => ?_⟩
  · rw [h4, List.length_append]; rfl
  · rw [h5, loopC_app]; rfl
  · have hg : g < L.length ∨ g = L.length := by simp at hg; omega
    rcases hg with hg | rfl
    · rw [ge_app hg]
      have q := h.2.2.1 g hg
      have hne : ¬ g = L.length := by omega
      refine ⟨?_, ?_, ?_, ?_, ?_, ?_⟩
      · simp [upa_s, upd_s, hne]; exact q.1
      · simp [upa_s, upd_s, hne]; exact q.2.1
      · simp [upa_s, upd_s, hne]; exact q.2.2.1
      · simp [upa_s, upd_s, hne]; exact q.2.2.2.1
      · simp [upa_s, upd_s, hne]; exact q.2.2.2.2.1
      · simp [upa_s, upd_s, hne]; exact q.2.2.2.2.2
    · rw [ge_last]
      refine ⟨?_, ?_, ?_, ?_, ?_, ?_⟩ <;> simp [upa_s, upd_s] <;> rfl
  · rw [fnd_app]
    simp only [upa_s, upd_s]
    simp
    rw [upd_s]
    by_cases hq2 : q = pl i t c
    · subst hq2
      rw [if_pos rfl, hn]
      show _ = fI (if gpl _ = _ then _ else _)
      rw [if_pos (by rfl)]
      rfl
    · rw [if_neg hq2, h.2.2.2.1 q hq]
      cases hf : fnd L q with
      | some g => rfl
      | none =>
        show _ = fI (if gpl _ = _ then _ else _)
        rw [if_neg (fun z => hq2 z.symm)]
  · rw [come_app]
    simp only [upa_s, upd_s]
    simp
    rw [upd_s]
    by_cases hj2 : j = i
    · subst hj2
      rw [if_pos rfl]
      show _ = nI (if j = j then _ else _)
      rw [if_pos rfl]
      rfl
    · rw [if_neg hj2, h.2.2.2.2 j hj]
      show _ = nI (if i = j then _ else _)
      rw [if_neg (fun z => hj2 z.symm)]

def sX0_meet : SP := fun As f a Q => match As with
  | [.inr (.inr (0, p, 0)), .inl x1, .inl x2, .inl x3, .inl x4, .inl x5] => ∃ L i t c ah la, GR (f 0 p) (a 0 p) L ∧ WL L ∧ x1 = nI i ∧ i < 3 ∧ x2 = nI t ∧ t < 3 ∧ x3 = nI (bitsN c) ∧ c < 81 ∧ x4 = fI ah ∧ (∀ h, ah = some h → h < L.length) ∧ x5 = nI la ∧ la < 12 ∧
      ∀ f' a', Fr f a f' a' 0 p → a' 0 p 2 = a 0 p 2 → GR (f' 0 p) (a' 0 p) (meetL L i t c ah la) → Q (some (.inl (fI (fnd (meetL L i t c ah la) (pl i t c))))) f' a'
  | _ => False
def eX0_meet : En := (tX0_meet, [(87, true, 1, sX0_codeOf), (90, true, 3, sX0_placeOf), (94, false, 2, sX0_isLoop), (98, true, 1, sX4_bit)], fdX0, [], 0)
theorem eokX0_meet {g : Gm} (hg : GmOK g) : EnvOK g 3 RX0 cX0_meet (some .int) eX0_meet := ⟨okX0_meet, fun _ _ _ _ h => as2_all (P := fun i v => CallOK g 3 RX0 i v.1 v.2.1 v.2.2) (l := eX0_meet.2.1) ⟨callS_ok hg (mX0_codeOf hg) kX0_codeOf mlX0_87 qX0_codeOf ⟨by decide, by decide⟩, callS_ok hg (mX0_placeOf hg) kX0_placeOf mlX0_90 qX0_placeOf ⟨by decide, by decide⟩, callV_ok (t := 0) hg (mX0_isLoop hg) kX0_isLoop mlX0_94 qX0_isLoop.1 qX0_isLoop.2 ⟨by decide, by decide⟩ ⟨_, _, rfl⟩ shX0_isLoop, callN_ok (host := "FallingCalls") hg (mX4_bit hg) kX4_bit (nxX0_98 hg) qX4_bit ⟨by decide, by decide⟩, trivial⟩ h, fdX0_ok, (fun _ _ h => by cases h), rfl⟩
theorem fI_neg {r : Option Nat} (h : fI r < 0) (hr : ∀ g, r = some g → g < 729) : r = none := by
  cases r with
  | none => rfl
  | some g => exact absurd h (nI_pos (by have := hr g rfl; omega))
theorem rX0_meet (av : List AV) (f : FF) (a : AA) (post : PT) (h : sX0_meet av f a post) (X : XT) (hX : Clo eX0_meet post X) : X 0 (padL 8 (ent av)) [] f a := by
  unfold sX0_meet at h
  split at h
  · rename_i p x1 x2 x3 x4 x5
    obtain ⟨L, i, t, c, ah, la, hR, hL, rfl, hi, rfl, ht, rfl, hc, rfl, hah, rfl, hla, h⟩ := h
    have hp := pl_lt hi ht hc
    have hlen := WL_len hL
    have ef := hR.2.2.2.1 _ hp
    have cp : (nI (pl i t c)).toNatClampNeg = pl i t c := nI_clamp (by omega)
    refine hX [116, 143] 90 _ _ _ _ _ ?_
    refine ⟨c, hc, rfl, i, t, c, rfl, rfl, rfl, inA 729 rfl rfl hp (by decide), fun q => ?_, fun q => ?_⟩
    · rw [cp, ef] at q
      have hn : fnd L (pl i t c) = none := fI_neg q (fun g hg => by have := (fnd_some hg).1; omega)
      have hlt : L.length < 729 := by
        have := WL_len (WL_new (la := la) hL hi ht hc hla hah hn)
        rw [List.length_append] at this
        exact this
      have e4 := hR.1
      have em : meetL L i t c ah la = L ++ [newE L i t c ah la] := by unfold meetL; rw [hn]
      refine ⟨inA 729 rfl rfl hp (by decide), inA 729 e4 rfl hlt (by decide), inA 729 e4 rfl hlt (by decide), inA 729 e4 rfl hlt (by decide), inA 729 e4 rfl hlt (by decide), ?_⟩
      have cg : (nI L.length).toNatClampNeg = L.length := nI_clamp (by omega)
      have e1 : nI L.length + 1 = nI (L.length + 1) := (nI_succ _).symm
      have e3 : 3 * nI i + nI t = nI (3 * i + t) := by rw [show (3 : Int32) = nI 3 from rfl, pk_mul, nI_add]
      have ci : (nI i).toNatClampNeg = i := nI_clamp (by omega)
      have hLi : ∀ A5 A6 A7 : AA, A5 = upa (upa (upa (upa (upa a 0 p 10 (pl i t c) (nI L.length)) 0 p 0 L.length (nI (bitsN c))) 0 p 6 L.length (nI (3 * i + t))) 0 p 7 L.length (fI ah)) 0 p 8 L.length (nI la) →
          A6 = upa A5 0 p 1 L.length (nI (newE L i t c ah la).2.2.2.2.2.1) → A7 = upa A6 0 p 9 L.length (nI (newE L i t c ah la).2.2.2.2.2.2) →
          X 116 [some (.inr (.inr (0, p, 0))), some (.inl (nI i)), some (.inl (nI t)), some (.inl (nI (bitsN c))), some (.inl (fI ah)), some (.inl (nI la)), some (.inl (nI (pl i t c))), some (.inl (nI L.length))] [.inl (nI (newE L i t c ah la).2.2.2.2.2.1), .inl (nI L.length), .inr (.inr (0, p, 2))] (upf f 0 p 4 (nI (L.length + 1))) A5 := by
        intro A5 A6 A7 e5 e6 e7
        have r3 : A7 0 p 3 i = nI (comeN L i) := by
          rw [e7, e6, e5]
          simp [upa_s]
          exact hR.2.2.2.2 i hi
        have r9 : ∀ h, ah = some h → A6 0 p 9 h = nI (ge L h).2.2.2.2.2.2 := by
          intro h hh
          rw [e6, e5]
          simp [upa_s]
          exact (hR.2.2.1 h (hah h hh)).2.2.2.2.2
        have k143 : ∀ xm, nI (2 ^ la) ||| xm = nI (newE L i t c ah la).2.2.2.2.2.2 → X 143 [some (.inr (.inr (0, p, 0))), some (.inl (nI i)), some (.inl (nI t)), some (.inl (nI (bitsN c))), some (.inl (fI ah)), some (.inl (nI la)), some (.inl (nI (pl i t c))), some (.inl (nI L.length))] [.inl xm, .inl (nI (2 ^ la)), .inl (nI L.length), .inr (.inr (0, p, 10))] (upf f 0 p 4 (nI (L.length + 1))) A6 := by
          intro xm hxm
          refine hX [] 90 _ _ _ _ _ ?_
          refine ⟨inA 729 rfl rfl hlt (by decide), inA 3 rfl rfl hi (by decide), inA 3 rfl rfl hi (by decide), ?_⟩
          have eA : upa (upa A6 0 p 9 (nI L.length).toNatClampNeg (nI (2 ^ la) ||| xm)) 0 p 3 (nI i).toNatClampNeg ((upa A6 0 p 9 (nI L.length).toNatClampNeg (nI (2 ^ la) ||| xm)) 0 p 3 (nI i).toNatClampNeg ||| ((1 : Int32) <<< (nI t &&& 31))) = mtA a p L.length (pl i t c) (nI (bitsN c)) (nI (3 * i + t)) (fI ah) (nI la) (nI (newE L i t c ah la).2.2.2.2.2.1) (nI (newE L i t c ah la).2.2.2.2.2.2) i (nI (comeN L i ||| 2 ^ t)) := by
            rw [cg, ci, hxm, ← e7, r3, shl_t t (by omega), fa_or, e7, e6, e5]
            rfl
          have g6 : ∀ A8, A8 = mtA a p L.length (pl i t c) (nI (bitsN c)) (nI (3 * i + t)) (fI ah) (nI la) (nI (newE L i t c ah la).2.2.2.2.2.1) (nI (newE L i t c ah la).2.2.2.2.2.2) i (nI (comeN L i ||| 2 ^ t)) → A8 0 p 6 L.length = nI (3 * i + t) ∧ A8 0 p 0 L.length = nI (bitsN c) := by
            intro A8 e8
            rw [e8]
            unfold mtA
            constructor <;> simp [upa_s, upd_s]
          have g8 := g6 _ eA
          refine ⟨L.length, i, t, c, rfl, hlt, g8.1, hi, ht, g8.2, hc, ?_⟩
          rw [em] at h
          have e5' : upf f 0 p 4 (nI (L.length + 1)) 0 p 5 = nI (loopC L) := by
            rw [upf_s, if_neg (by decide)]
            exact hR.2.1
          refine pIV (h _ _ ((((Fr.rf f a 0 p).uf 4 (nI (L.length + 1))).uf 5 (nI (loopC L) + b2i (loopK i t c))).tr (mtA_fr _ a p _ _ _ _ _ _ _ _ _ _)) ?_ (GR_new hR hi ht hc hn _ ?_ ?_)) ?_ ?_ eA.symm
          · unfold mtA
            simp [upa_s]
          · rw [upf_s, if_neg (by decide), upf_s, if_pos rfl]
          · rw [upf_s, if_pos rfl]
          · rw [fnd_app, hn]
            exact congrArg fI (if_pos rfl)
          · dsimp only
            rw [e5', b2i_b]
        refine hX [143] 90 _ _ _ _ _ ?_
        refine ⟨inA 729 rfl rfl hlt (by decide), ?_⟩
        have k2 := k143
        have e6' : A6 = upa A5 0 p 1 (nI L.length).toNatClampNeg (nI (newE L i t c ah la).2.2.2.2.2.1) := by rw [cg]; exact e6
        rw [← shl_t la hla, e6'] at k2
        cases ah with
        | none =>
          refine ⟨fun q => absurd q (by decide), fun q => ?_⟩
          refine k2 0 ?_
          rw [shl_t la hla]
          exact (show nI (2 ^ la) ||| nI 0 = _ from fa_or _ _)
        | some hh =>
          have hhl := hah hh rfl
          refine ⟨fun q => ?_, fun q => absurd (nI_pos' (by omega)) q⟩
          refine ⟨inA 729 rfl rfl (show hh < 729 by omega) (by decide), ?_⟩
          refine k2 _ ?_
          rw [shl_t la hla, ← e6', show (fI (some hh)).toNatClampNeg = hh from nI_clamp (by omega), r9 hh rfl]
          exact fa_or _ _
      simp only [e4, cp, cg, e1, e3]
      cases ah with
      | none =>
        refine ⟨fun q => absurd q (by decide), fun q => ?_⟩
        exact hLi _ _ _ rfl rfl rfl
      | some hh =>
        have hhl := hah hh rfl
        refine ⟨fun q => ?_, fun q => absurd (nI_pos' (by omega)) q⟩
        refine ⟨inA 729 rfl rfl (show hh < 729 by omega) (by decide), ?_⟩
        have k3 := hLi _ _ _ rfl rfl rfl
        have e9 : nI (newE L i t c (some hh) la).2.2.2.2.2.1 = (upa (upa (upa (upa (upa a 0 p 10 (pl i t c) (nI L.length)) 0 p 0 L.length (nI (bitsN c))) 0 p 6 L.length (nI (3 * i + t))) 0 p 7 L.length (fI (some hh))) 0 p 8 L.length (nI la)) 0 p 1 (fI (some hh)).toNatClampNeg + 1 := by
          rw [show (fI (some hh)).toNatClampNeg = hh from nI_clamp (by omega)]
          simp [upa_s]
          rw [(hR.2.2.1 hh hhl).2.2.2.2.1]
          exact nI_succ _
        rw [e9] at k3
        exact k3
    · rw [cp, ef] at q
      refine ⟨inA 729 rfl rfl hp (by decide), ?_⟩
      have hs : ∃ g, fnd L (pl i t c) = some g := by
        cases hh : fnd L (pl i t c) with
        | none => rw [hh] at q; exact absurd (by decide) q
        | some g => exact ⟨g, rfl⟩
      obtain ⟨g, hg⟩ := hs
      have em : meetL L i t c ah la = L := by unfold meetL; rw [hg]
      rw [em] at h
      refine pI (h f a (Fr.rf f a 0 p) rfl hR) ?_
      rw [cp, ef]
  · exact h.elim
theorem shX0_meet : ∀ As f a Q, sX0_meet As f a Q → ∃ i r, As = .inr (.inr (0, i, 0)) :: r := by
  intro As f a Q h
  unfold sX0_meet at h
  split at h
  · exact ⟨_, _, rfl⟩
  · exact h.elim
theorem mX0_meet {g : Gm} (hg : GmOK g) : MetC g yX0_meet cX0_meet 8 (some .int) 3 sX0_meet := by
  refine MetC_of hg eX0_meet (eokX0_meet hg) (by decide +kernel) (fun av f a post h => ?_) rX0_meet
  unfold sX0_meet at h
  split at h
  · exact Nat.le_of_ble_eq_true rfl
  · exact h.elim
