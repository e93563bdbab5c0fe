/-! what the reference reaches is what the graphs tell -/
def Rp (P : Pg) (i j : Nat) : Prop := ∀ S : Nat → Prop, (∀ c, c < P.2.length → fr P c = i → S (to P c)) → (∀ c, c < P.2.length → S (fr P c) → S (to P c)) → S j
theorem actO_none : actO none = fun _ => true := by
  funext c
  simp [actO]
theorem cloM_none (P : Pg) : cloM P none = clo P := by
  unfold cloM clo
  rw [actO_none]
theorem come_bit (j i : Nat) : ∀ (L : List Gr) (m : Nat), (L.foldl (fun m e => if e.1 = i then m ||| 2 ^ e.2.1 else m) m).testBit j = true ↔ (m.testBit j = true ∨ ∃ e, e ∈ L ∧ e.1 = i ∧ e.2.1 = j)
  | [], m => by simp
  | e :: L, m => by
    rw [List.foldl_cons, come_bit j i L]
    by_cases h : e.1 = i
    · rw [if_pos h, Nat.testBit_or, Bool.or_eq_true, Nat.testBit_two_pow, decide_eq_true_eq]
      constructor
      · rintro ((q | q) | ⟨e', q⟩)
        · exact Or.inl q
        · exact Or.inr ⟨e, List.mem_cons_self .., h, q⟩
        · exact Or.inr ⟨e', List.mem_cons_of_mem _ q.1, q.2⟩
      · rintro (q | ⟨e', q1, q2, q3⟩)
        · exact Or.inl (Or.inl q)
        · rcases List.mem_cons.mp q1 with q1 | q1
          · rw [q1] at q3
            exact Or.inl (Or.inr q3)
          · exact Or.inr ⟨e', q1, q2, q3⟩
    · rw [if_neg h]
      constructor
      · rintro (q | ⟨e', q⟩)
        · exact Or.inl q
        · exact Or.inr ⟨e', List.mem_cons_of_mem _ q.1, q.2⟩
      · rintro (q | ⟨e', q1, q2, q3⟩)
        · exact Or.inl q
        · rcases List.mem_cons.mp q1 with q1 | q1
          · rw [q1] at q2
            exact absurd q2 h
          · exact Or.inr ⟨e', q1, q2, q3⟩
theorem mem_ge {L : List Gr} {e : Gr} : e ∈ L ↔ ∃ g, g < L.length ∧ ge L g = e := by
  constructor
  · intro h
    obtain ⟨g, hg⟩ := List.getElem?_of_mem h
    have hl : g < L.length := (List.getElem?_eq_some_iff.mp hg).1
    exact ⟨g, hl, Option.some.inj ((ge_at hl).symm.trans hg)⟩
  · rintro ⟨g, hl, rfl⟩
    exact List.mem_of_getElem? (ge_at hl)
theorem come_Rp {P : Pg} (hW : WF P) (i j : Nat) : (comeN (clo P) i).testBit j = true ↔ Rp P i j := by
  unfold comeN
  rw [come_bit]
  constructor
  · rintro (q | ⟨e, he, rfl, rfl⟩)
    · simp at q
    · obtain ⟨g, hg, rfl⟩ := mem_ge.mp he
      have hs := (SND_clo (kf P) (fun _ => true) P.2.length g hg).1
      refine hs (fun k => Rp P k.1 k.2.1) (fun b hb => ?_) (fun s b hs hb e => ?_)
      · obtain ⟨c, hc, -, rfl⟩ := hb
        exact fun S h1 _ => h1 c hc rfl
      · obtain ⟨c, hc, -, rfl⟩ := hb
        intro S h1 h2
        have e : fr P c = s.2.1 := e
        exact h2 c hc (by rw [e]; exact hs S h1 h2)
  · intro h
    have hk : ∃ k, InS (Bk (kf P) (fun _ => true) P.2.length) (i, j, k) := h (fun j => ∃ k, InS (Bk (kf P) (fun _ => true) P.2.length) (i, j, k)) (fun c hc e => ⟨codeN P c, by rw [← e]; exact InS.one ⟨c, hc, rfl, rfl⟩⟩) (fun c hc z => by
      obtain ⟨k, hk⟩ := z
      exact ⟨compN k (codeN P c), InS.next (s := (i, fr P c, k)) (b := kf P c) hk ⟨c, hc, rfl, rfl⟩ rfl⟩)
    obtain ⟨k, hk⟩ := hk
    obtain ⟨g, hg, e⟩ := clo_in (okK_P hW) hk
    exact Or.inr ⟨_, mem_ge.mpr ⟨g, hg, rfl⟩, congrArg (fun z : K3 => z.1) e, congrArg (fun z : K3 => z.2.1) e⟩
theorem rc1_bit (P : Pg) (i j : Nat) : ∀ n, (rc1 P i n).testBit j = true ↔ ∃ c, c < n ∧ fr P c = i ∧ to P c = j
  | 0 => by
    unfold rc1
    simp
  | n + 1 => by
    unfold rc1
    rw [Nat.testBit_or, Bool.or_eq_true, rc1_bit P i j n]
    constructor
    · rintro (⟨c, q⟩ | q)
      · exact ⟨c, by omega, q.2⟩
      · split at q
        · rename_i e
          rw [Nat.testBit_two_pow, decide_eq_true_eq] at q
          exact ⟨n, by omega, e, q⟩
        · simp at q
    · rintro ⟨c, q, e1, e2⟩
      rcases (show c < n ∨ c = n by omega) with q | rfl
      · exact Or.inl ⟨c, q, e1, e2⟩
      · rw [if_pos e1, Nat.testBit_two_pow, decide_eq_true_eq]
        exact Or.inr e2
theorem rcP_mono (P : Pg) (s j : Nat) (h : s.testBit j = true) : ∀ n, (rcP P s n).testBit j = true
  | 0 => h
  | n + 1 => by
    unfold rcP
    rw [Nat.testBit_or, rcP_mono P s j h n]
    rfl
theorem rcP_snd {P : Pg} {S : Nat → Prop} (hS : ∀ c, c < P.2.length → S (fr P c) → S (to P c)) {s : Nat} (hs : ∀ j, s.testBit j = true → S j) : ∀ n, n ≤ P.2.length → ∀ j, (rcP P s n).testBit j = true → S j
  | 0, _, j, h => hs j h
  | n + 1, hn, j, h => by
    unfold rcP at h
    rw [Nat.testBit_or, Bool.or_eq_true] at h
    rcases h with h | h
    · exact rcP_snd hS hs n (by omega) j h
    · split at h
      · rename_i e
        rw [Nat.testBit_two_pow, decide_eq_true_eq] at h
        rw [← h]
        exact hS n (by omega) (rcP_snd hS hs n (by omega) _ e)
      · simp at h
theorem rcP_step (P : Pg) (s : Nat) {c : Nat} (hc : s.testBit (fr P c) = true) : ∀ n, c < n → (rcP P s n).testBit (to P c) = true
  | 0, h => absurd h (Nat.not_lt_zero _)
  | n + 1, h => by
    unfold rcP
    rw [Nat.testBit_or, Bool.or_eq_true]
    rcases (show c < n ∨ c = n by omega) with q | rfl
    · exact Or.inl (rcP_step P s hc n q)
    · rw [if_pos (rcP_mono P s _ hc c), Nat.testBit_two_pow_self]
      exact Or.inr rfl
theorem ch4b : (List.range 8).all (fun a => (List.range 8).all (fun b => (List.range 8).all (fun c => (List.range 8).all (fun d => !(Nat.beq (a ||| b) b && Nat.beq (b ||| c) c && Nat.beq (c ||| d) d) || (Nat.beq a b || Nat.beq b c || Nat.beq c d || Nat.beq d 7))))) = true := by decide +kernel
theorem ch4 (a : Nat) (ha : a < 8) (b : Nat) (hb : b < 8) (c : Nat) (hc : c < 8) (d : Nat) (hd : d < 8) (h1 : a ||| b = b) (h2 : b ||| c = c) (h3 : c ||| d = d) : a = b ∨ b = c ∨ c = d ∨ d = 7 := by
  have h := List.all_eq_true.mp (List.all_eq_true.mp (List.all_eq_true.mp (List.all_eq_true.mp ch4b a (List.mem_range.mpr ha)) b (List.mem_range.mpr hb)) c (List.mem_range.mpr hc)) d (List.mem_range.mpr hd)
  have e : ∀ x y, Nat.beq x y = true ↔ x = y := fun x y => Nat.beq_eq ▸ Iff.rfl
  rw [h1, h2, h3, (e b b).mpr rfl, (e c c).mpr rfl, (e d d).mpr rfl] at h
  simp only [Bool.and_self, Bool.not_true, Bool.false_or, Bool.or_eq_true, e] at h
  omega
theorem or7 : ∀ d, d < 8 → 7 ||| d = d → d = 7 := by decide +kernel
theorem rcQ_or (P : Pg) (i k : Nat) : rcQ P i k ||| rcQ P i (k + 1) = rcQ P i (k + 1) := by
  refine Nat.eq_of_testBit_eq (fun j => ?_)
  rw [Nat.testBit_or]
  cases h : (rcQ P i k).testBit j with
  | false => rfl
  | true =>
    have := rcP_mono P _ j h P.2.length
    show (true || _) = (rcP P (rcQ P i k) P.2.length).testBit j
    rw [this]
    rfl
theorem rcN_fix {P : Pg} (hW : WF P) (i : Nat) : rcQ P i 4 = rcQ P i 3 := by
  have st : ∀ k, rcQ P i k = rcQ P i (k + 1) → rcQ P i (k + 1) = rcQ P i (k + 1 + 1) := fun k h => congrArg (fun s => rcP P s P.2.length) h
  rcases ch4 _ (rcQ_lt hW i 0) _ (rcQ_lt hW i 1) _ (rcQ_lt hW i 2) _ (rcQ_lt hW i 3) (rcQ_or P i 0) (rcQ_or P i 1) (rcQ_or P i 2) with h | h | h | h
  · exact (st 2 (st 1 (st 0 h))).symm
  · exact (st 2 (st 1 h)).symm
  · exact (st 2 h).symm
  · have := rcQ_or P i 3
    rw [h] at this
    rw [h]
    exact or7 _ (rcQ_lt hW i 4) this
theorem rcN_Rp {P : Pg} (hW : WF P) (i j : Nat) : (rcN P i).testBit j = true ↔ Rp P i j := by
  constructor
  · intro h S h1 h2
    have q0 : ∀ j, (rcQ P i 0).testBit j = true → S j := fun j z => by
      obtain ⟨c, hc, e1, e2⟩ := (rc1_bit P i j _).mp z
      rw [← e2]
      exact h1 c hc e1
    have st : ∀ k, (∀ j, (rcQ P i k).testBit j = true → S j) → ∀ j, (rcQ P i (k + 1)).testBit j = true → S j := fun k z => rcP_snd h2 z _ (Nat.le_refl _)
    exact st 2 (st 1 (st 0 q0)) j h
  · intro h
    refine h (fun j => (rcN P i).testBit j = true) (fun c hc e => ?_) (fun c hc z => ?_)
    · have q0 : (rcQ P i 0).testBit (to P c) = true := (rc1_bit P i _ _).mpr ⟨c, hc, e, rfl⟩
      exact rcP_mono P _ _ (rcP_mono P _ _ (rcP_mono P _ _ q0 _) _) _
    · have z : (rcQ P i 3).testBit (fr P c) = true := z
      have := rcP_step P _ z P.2.length hc
      show (rcQ P i 3).testBit (to P c) = true
      rw [← rcN_fix hW i]
      exact this
theorem rcN_come {P : Pg} (hW : WF P) (i : Nat) : rcN P i = comeN (clo P) i :=
  Nat.eq_of_testBit_eq (fun j => Bool.eq_iff_iff.mpr ((rcN_Rp hW i j).trans (come_Rp hW i j).symm))
theorem tg_tog {P : Pg} (hW : WF P) {i j : Nat} (h : i ≠ j) : tgM P i j = togB (clo P) i j := by
  unfold tgM togB
  rw [rcN_come hW, rcN_come hW, decide_eq_false h, Bool.false_or]
theorem cp_fc {P : Pg} (hW : WF P) {i : Nat} (hi : i < 3) : cpM P i i i = fcN (clo P) i := by
  unfold fcN
  rcases (show i = 0 ∨ i = 1 ∨ i = 2 by omega) with rfl | rfl | rfl
  · rfl
  · simp only [cpM, firstU, tg_tog hW (show (1 : Nat) ≠ 0 by decide)]
    cases togB (clo P) 1 0 <;> rfl
  · simp only [cpM, firstU, tg_tog hW (show (2 : Nat) ≠ 0 by decide), tg_tog hW (show (2 : Nat) ≠ 1 by decide), Nat.zero_add]
    cases togB (clo P) 2 0 <;> cases togB (clo P) 2 1 <;> rfl
theorem cb_cb {P : Pg} (hW : WF P) {n : Nat} (hn : n ≤ 3) : cbM P n = cbN (clo P) n :=
  cnt_cong (fun k hk => by rw [cp_fc hW (by omega)])
theorem lo_lo {P : Pg} (hW : WF P) (i : Nat) : loM P (clo P) i = loopOfB (clo P) i := by
  funext g
  unfold loM loopOfB
  rw [rcN_come hW]
