/-! what the closing finds: all that words of calls are, composed -/
abbrev K3 : Type := Nat × Nat × Nat
def InS (B : K3 → Prop) (k : K3) : Prop := ∀ S : K3 → Prop, (∀ b, B b → S b) → (∀ s b, S s → B b → b.1 = s.2.1 → S (s.1, b.2.1, compN s.2.2 b.2.2)) → S k
theorem InS.mono {B B' : K3 → Prop} (h : ∀ b, B b → B' b) {k : K3} (hk : InS B k) : InS B' k := fun S h1 h2 => hk S (fun b hb => h1 b (h b hb)) (fun s b hs hb => h2 s b hs (h b hb))
theorem InS.one {B : K3 → Prop} {b : K3} (h : B b) : InS B b := fun _ h1 _ => h1 b h
theorem InS.next {B : K3 → Prop} {s b : K3} (hs : InS B s) (hb : B b) (e : b.1 = s.2.1) : InS B (s.1, b.2.1, compN s.2.2 b.2.2) := fun S h1 h2 => h2 s b (hs S h1 h2) hb e
def Bk (K : Kf) (act : Nat → Bool) (n : Nat) : K3 → Prop := fun b => ∃ c, c < n ∧ act c = true ∧ K c = b
def ky (e : Gr) : K3 := (e.1, e.2.1, e.2.2.1)
/-- all entries are words; those without a call c are words without it -/
def SND (K : Kf) (n : Nat) (act : Nat → Bool) (L : List Gr) : Prop := ∀ g, g < L.length → InS (Bk K act n) (ky (ge L g)) ∧ ∀ c, c < n → (ge L g).2.2.2.2.2.2.testBit c = false → InS (Bk K (fun j => act j && decide (j ≠ c)) n) (ky (ge L g))
theorem SND_meet {K : Kf} {n : Nat} {act : Nat → Bool} {L : List Gr} (h : SND K n act L) {f t c la : Nat} {ah : Option Nat} (h1 : InS (Bk K act n) (f, t, c)) (h2 : ∀ j, j < n → (newE L f t c ah la).2.2.2.2.2.2.testBit j = false → InS (Bk K (fun i => act i && decide (i ≠ j)) n) (f, t, c)) : SND K n act (meetL L f t c ah la) := by
  unfold meetL
  split
  · exact h
  · intro g hg
    have hg : g < L.length ∨ g = L.length := by simp at hg; omega
    rcases hg with hg | rfl
    · rw [ge_app hg]
      exact h g hg
    · rw [ge_last]
      exact ⟨h1, h2⟩
theorem bit_one {la j : Nat} : (2 ^ la).testBit j = decide (la = j) := Nat.testBit_two_pow
theorem SND_ph1 {K : Kf} {n : Nat} {act : Nat → Bool} : ∀ m, m ≤ n → SND K n act (ph1 K act m)
  | 0, _ => fun g hg => absurd hg (Nat.not_lt_zero g)
  | m + 1, hm => by
    have ih := SND_ph1 (K := K) (n := n) (act := act) m (by omega)
    unfold ph1
    split
    · rename_i ha
      refine SND_meet ih (InS.one ⟨m, by omega, ha, rfl⟩) (fun j hj hb => InS.one ⟨m, by omega, ?_, rfl⟩)
      have hb : (2 ^ m ||| 0).testBit j = false := hb
      rw [Nat.or_zero, bit_one] at hb
      simp [ha]
      exact of_decide_eq_false hb
    · exact ih
theorem SND_inn {K : Kf} {n : Nat} {act : Nat → Bool} {L : List Gr} {g : Nat} (hg : g < L.length) (h : SND K n act L) : ∀ m, m ≤ n → SND K n act (inn K act L g m)
  | 0, _ => h
  | m + 1, hm => by
    have ih := SND_inn (K := K) (act := act) hg h m (by omega)
    obtain ⟨M, hM⟩ := inn_pre (K := K) (act := act) (L := L) (g := g) m
    have hge : ge (inn K act L g m) g = ge L g := by rw [hM, ge_app hg]
    unfold inn
    split
    · rename_i ha
      simp only [Bool.and_eq_true, decide_eq_true_eq] at ha
      have hq := h g hg
      refine SND_meet ih (InS.next hq.1 (b := K m) ⟨m, by omega, ha.1, rfl⟩ ha.2) (fun j hj hb => ?_)
      have hb : (2 ^ m ||| (ge (inn K act L g m) g).2.2.2.2.2.2).testBit j = false := hb
      rw [hge, Nat.testBit_or, bit_one] at hb
      simp only [Bool.or_eq_false_iff] at hb
      refine InS.next (hq.2 j hj hb.2) (b := K m) ⟨m, by omega, ?_, rfl⟩ ha.2
      simp [ha.1]
      exact of_decide_eq_false hb.1
    · exact ih
theorem SND_out {K : Kf} {n : Nat} {act : Nat → Bool} : ∀ (d : Nat) (L : List Gr) (g : Nat), SND K n act L → SND K n act (out K act n d L g)
  | 0, _, _, h => h
  | d + 1, L, g, h => by
    unfold out
    split
    · rename_i hg
      exact SND_out d _ _ (SND_inn hg h n (Nat.le_refl _))
    · exact h
theorem SND_clo (K : Kf) (act : Nat → Bool) (n : Nat) : SND K n act (cloG K act n) := SND_out 730 _ 0 (SND_ph1 n (Nat.le_refl _))
theorem ph1_has {K : Kf} {act : Nat → Bool} : ∀ {m c : Nat}, c < m → act c = true → ∃ g, fnd (ph1 K act m) (pl (K c).1 (K c).2.1 (K c).2.2) = some g
  | m + 1, c, hc, ha => by
    unfold ph1
    rcases (show c < m ∨ c = m by omega) with z | rfl
    · obtain ⟨g, hg⟩ := ph1_has (K := K) z ha
      split
      · obtain ⟨M, hM⟩ := meet_pre (ph1 K act m) (K m).1 (K m).2.1 (K m).2.2 none m
        exact ⟨g, by rw [hM]; exact fnd_pre hg⟩
      · exact ⟨g, hg⟩
    · rw [if_pos ha]
      exact meet_has _ _ _ _ _ _
/-- graph g has been composed with every call -/
def PRC (K : Kf) (act : Nat → Bool) (n : Nat) (L : List Gr) (g : Nat) : Prop := ∀ c, c < n → act c = true → (K c).1 = (ge L g).2.1 → ∃ h, fnd L (pl (ge L g).1 (K c).2.1 (compN (ge L g).2.2.1 (K c).2.2)) = some h
theorem inn_has {K : Kf} {act : Nat → Bool} {L : List Gr} {g : Nat} : ∀ {m c : Nat}, c < m → act c = true → (K c).1 = (ge L g).2.1 → ∃ h, fnd (inn K act L g m) (pl (ge L g).1 (K c).2.1 (compN (ge L g).2.2.1 (K c).2.2)) = some h
  | m + 1, c, hc, ha, he => by
    unfold inn
    rcases (show c < m ∨ c = m by omega) with z | rfl
    · obtain ⟨h, hh⟩ := inn_has (L := L) (g := g) z ha he
      split
      · obtain ⟨M, hM⟩ := meet_pre (inn K act L g m) (ge L g).1 (K m).2.1 (compN (ge L g).2.2.1 (K m).2.2) (some g) m
        exact ⟨h, by rw [hM]; exact fnd_pre hh⟩
      · exact ⟨h, hh⟩
    · rw [if_pos (by simp [ha, he])]
      exact meet_has _ _ _ _ _ _
theorem out_prc {K : Kf} {act : Nat → Bool} {n : Nat} (hK : okK K n) : ∀ (d : Nat) (L : List Gr) (g : Nat), g + d = 730 → WL L → (∀ g', g' < g → g' < L.length → PRC K act n L g') → ∀ g', g' < (out K act n d L g).length → PRC K act n (out K act n d L g) g'
  | 0, L, g, hd, hL, h, g', hg' => by
    have := WL_len hL
    have hg' : g' < L.length := hg'
    exact h g' (by omega) hg'
  | d + 1, L, g, hd, hL, h, g', hg' => by
    unfold out at hg' ⊢
    split at hg'
    · rename_i hg
      rw [if_pos hg]
      obtain ⟨M, hM⟩ := inn_pre (K := K) (act := act) (L := L) (g := g) n
      refine out_prc hK d _ (g + 1) (by omega) (inn_ok hK hL hg n (Nat.le_refl _)) (fun x hx hxl => ?_) g' hg'
      rcases (show x < g ∨ x = g by omega) with z | rfl
      · have hxl : x < L.length := by omega
        have hge : ge (inn K act L g n) x = ge L x := by rw [hM, ge_app hxl]
        intro c hc ha he
        rw [hge] at he ⊢
        obtain ⟨y, hy⟩ := h x z hxl c hc ha he
        exact ⟨y, by rw [hM]; exact fnd_pre hy⟩
      · have hge : ge (inn K act L x n) x = ge L x := by rw [hM, ge_app hg]
        intro c hc ha he
        rw [hge] at he ⊢
        exact inn_has hc ha he
    · rename_i hg
      rw [if_neg hg]
      exact h g' (by omega) hg'
theorem clo_in {K : Kf} {act : Nat → Bool} {n : Nat} (hK : okK K n) {k : K3} (hk : InS (Bk K act n) k) : ∃ g, g < (cloG K act n).length ∧ ky (ge (cloG K act n) g) = k := by
  have hW : WL (cloG K act n) := clo_ok hK
  have at' : ∀ (f t c g : Nat), t < 3 → c < 81 → fnd (cloG K act n) (pl f t c) = some g → ∃ g, g < (cloG K act n).length ∧ ky (ge (cloG K act n) g) = (f, t, c) := by
    intro f t c g ht hc hg
    obtain ⟨h1, h2⟩ := fnd_some hg
    have he := hW.1 g h1
    obtain ⟨e1, e2, e3⟩ := pl_inj he.2.1 he.2.2.1 ht hc h2
    exact ⟨g, h1, by unfold ky; rw [e1, e2, e3]⟩
  refine hk (fun k => ∃ g, g < (cloG K act n).length ∧ ky (ge (cloG K act n) g) = k) (fun b hb => ?_) (fun s b hs hb he => ?_)
  · obtain ⟨c, hc, ha, rfl⟩ := hb
    obtain ⟨g, hg⟩ := ph1_has (K := K) hc ha
    obtain ⟨M, hM⟩ := (out_ok (act := act) hK 730 (ph1 K act n) 0 (ph1_ok hK n (Nat.le_refl _))).2
    have hkk := hK.2 c hc
    exact at' (K c).1 (K c).2.1 (K c).2.2 g hkk.2.1 hkk.2.2 (by unfold cloG; rw [hM]; exact fnd_pre hg)
  · obtain ⟨g, hg, rfl⟩ := hs
    obtain ⟨c, hc, ha, rfl⟩ := hb
    have hkk := hK.2 c hc
    obtain ⟨y, hy⟩ := out_prc hK 730 (ph1 K act n) 0 (by omega) (ph1_ok hK n (Nat.le_refl _)) (fun x hx => absurd hx (Nat.not_lt_zero x)) g hg c hc ha he
    exact at' _ _ _ y hkk.2.1 (compN_lt _ _) hy
theorem cnt_zero {p : Nat → Bool} : ∀ {n : Nat}, cnt p n = 0 ↔ ∀ k, k < n → p k = false
  | 0 => ⟨fun _ k hk => absurd hk (Nat.not_lt_zero k), fun _ => rfl⟩
  | n + 1 => by
    unfold cnt
    constructor
    · intro h k hk
      rcases (show k < n ∨ k = n by omega) with z | rfl
      · exact cnt_zero.mp (by omega) k z
      · cases hp : p k with
        | false => rfl
        | true => rw [hp] at h; simp at h
    · intro h
      rw [cnt_zero.mpr (fun k hk => h k (by omega)), h n (by omega)]
      rfl
theorem loop_iff {K : Kf} {act : Nat → Bool} {n : Nat} (hK : okK K n) : loopC (cloG K act n) = 0 ↔ ∀ k, InS (Bk K act n) k → loopK k.1 k.2.1 k.2.2 = false := by
  unfold loopC
  rw [cnt_zero]
  constructor
  · intro h k hk
    obtain ⟨g, hg, rfl⟩ := clo_in hK hk
    exact h g hg
  · intro h g hg
    exact h _ ((SND_clo K act n) g hg).1
/-- a loop whose word has no call c is a loop without that call -/
theorem loop_without {P : Pg} (hW : WF P) {c g : Nat} (hc : c < P.2.length) (hg : g < (clo P).length) (hl : loopE (ge (clo P) g) = true) (hb : (ge (clo P) g).2.2.2.2.2.2.testBit c = false) {K : Kf} {act : Nat → Bool} {n : Nat} (hK : okK K n) (hB : ∀ j, j < P.2.length → j ≠ c → Bk K act n (kf P j)) : ¬ loopC (cloG K act n) = 0 := by
  intro h0
  have h1 := (SND_clo (kf P) (fun _ => true) P.2.length g hg).2 c hc hb
  have h2 : InS (Bk K act n) (ky (ge (clo P) g)) := h1.mono (fun b hb => by
    obtain ⟨j, hj, ha, rfl⟩ := hb
    simp at ha
    exact hB j hj ha)
  have h3 := (loop_iff hK).mp h0 _ h2
  have h4 : loopE (ge (clo P) g) = false := h3
  rw [hl] at h4
  cases h4
