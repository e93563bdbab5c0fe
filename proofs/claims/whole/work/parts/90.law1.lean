/-! the law's steps -/
theorem RepC.s4 {f f' : FF} {a a' : AA} {A : Ab} (h : RepC f a A) (hs : S4 f a f' a') : RepC f' a' A := by
  obtain ⟨r1, r2, r3, r4, r5, r6, r7⟩ := h
  refine ⟨?_, ?_, ?_, ?_, ?_, ?_, ?_⟩
  · rw [(hs 1 0 (by decide)).1, (hs 1 0 (by decide)).2]; exact r1
  · rw [(hs 3 0 (by decide)).1, (hs 3 0 (by decide)).2]; exact r2
  · intro k hk
    rw [(hs 4 0 (by decide)).2, (hs 1 (2 + k) (by decide)).1, (hs 1 (2 + k) (by decide)).2]
    exact r3 k hk
  · intro k hk
    rw [(hs 2 k (by decide)).1, (hs 2 k (by decide)).2]
    exact r4 k hk
  · rw [(hs 4 0 (by decide)).1]; exact r5
  · unfold stC
    rw [(hs 4 0 (by decide)).1, (hs 0 0 (by decide)).1, (hs 0 0 (by decide)).2]
    exact r6
  · intro k hk
    rw [(hs 1 k (by decide)).2]
    exact r7 k hk
theorem RepM.s5 {f f' : FF} {a a' : AA} {A : Ab} (h : RepM f a A) (hs : S5 f a f' a') : RepM f' a' A := h.of (by rw [hs.1]) (by rw [hs.1]) (by rw [hs.1]) (by rw [hs.1]) (fun k _ => by rw [hs.2])
/-- the values of a row of the script -/
def arx (x : Nat → Int32) : Nat → List AV
  | 0 => []
  | n + 1 => arx x n ++ [.inl (x (n + 1))]
theorem arx_len (x : Nat → Int32) : ∀ n, (arx x n).length = n
  | 0 => rfl
  | n + 1 => by rw [arx, List.length_append, arx_len x n]; rfl
theorem arx_vld (x : Nat → Int32) : ∀ n, ∀ v ∈ arx x n, vld v
  | 0 => fun v h => by cases h
  | n + 1 => fun v h => by
    rcases List.mem_append.mp h with q | q
    · exact arx_vld x n v q
    · cases List.mem_singleton.mp q
      exact trivial
theorem arx_rev (ad : Ky → Nat) (x : Nat → Int32) (n : Nat) : ((arx x (n + 1)).map (cv ad)).reverse = .int (x (n + 1)) :: ((arx x n).map (cv ad)).reverse := by
  rw [arx, List.map_append, List.reverse_append]
  rfl
def rdB : Nat → Nat → Bool
  | 0, _ => true
  | n + 1, pc => rdB n pc && (decide (decode code (pc + 5 * n) = .ok (.aload_n 0, 1)) && (decide (decode code (pc + 5 * n + 1) = .ok (.iload_n 3, 1)) && (decide (decode code (pc + 5 * n + 2) = .ok (.iconst ((n + 1 : Nat) : Int), 1)) && (decide (decode code (pc + 5 * n + 3) = .ok (.iadd, 1)) && decide (decode code (pc + 5 * n + 4) = .ok (.iaload, 1))))))
/-- what holds of the machine all the while -/
def LF (g : Gm) (p : Program) (s : State) (m : MethodId) (args : Array Value) (c : Code) (b L : Nat) (xs : Nat → Int32) : Prop :=
  GmOK g ∧ p.tables.exec = Jvm.exec ∧ c.code = code ∧ c.maxLocals = 4 ∧ s.vm.findClass R_law = some m.cls ∧ (∀ w ∈ WS, w.before args s = true) ∧ gG g s ∧ va_X b L xs s s.heap ∧ b < s.heap.size ∧ ¬ gA g b
section Law1
variable {g : Gm} {p : Program} {e : Env} {s : State} {m : MethodId} {args : Array Value} {below : List Frame} {meth : Method} {c : Code} {H : Heap} {locs : List Loc} {Q : State → Prop} {ls : Array Slot} {b L i nc ns : Nat} {xs : Nat → Int32}
def lls (g : Gm) (b i : Nat) : List (Nat × Value) := [(3, .int (nI i)), (2, .ref (gAd g (5, 0, 0))), (1, .ref (gAd g (4, 0, 0))), (0, .ref b)]
theorem rdLw (F : LF g p s m args c b L xs) (hls : lv_has ls 4 (lls g b i)) (hi : i + 5 ≤ L) (hL : L ≤ 2560) (hS : va_S (gA g) s.heap H locs) {pc : Nat} {rest : List Value} : ∀ n, n ≤ 4 → rdB n pc = true →
    W p (gL g) e room_1 s m args below meth c H locs nc ns Q (F0 m (pc + 5 * n) ls (((arx (fun k => xs (i + k)) n).map (cv (gAd g))).reverse ++ rest)) → W p (gL g) e room_1 s m args below meth c H locs nc ns Q (F0 m pc ls rest)
  | 0, _, _, k => k
  | n + 1, hn, hB, k => by
    unfold rdB at hB
    simp only [Bool.and_eq_true, decide_eq_true_eq] at hB
    obtain ⟨h0, d0, d1, d2, d3, d4⟩ := hB
    refine rdLw F hls hi hL hS n (by omega) h0 ?_
    obtain ⟨-, hx, hb, -, -, -, -, hX, hbl, hbA⟩ := F
    refine lv_aload_n hx hb d0 rfl (lv_at hls 3 rfl) ?_
    refine lv_iload_n hx hb d1 rfl (lv_at hls 0 rfl) ?_
    refine lv_iconst hx hb d2 (show Int32.ofInt ((n + 1 : Nat) : Int) = nI (n + 1) from rfl) ?_
    refine lv_iadd hx hb d3 ?_
    rw [nI_add]
    have hc : (nI (i + (n + 1))).toNatClampNeg = i + (n + 1) := nI_clamp (by omega)
    refine va_sld hx hb hX hbl hbA hS (fun q => ?_) d4 ?_
    · rcases q with q | q
      · exact nI_pos (by omega) q
      · rw [hc] at q; omega
    · rw [hc]
      rw [arx_rev] at k
      exact k
theorem callL {lvc idx n maxL t : Nat} {y : MethodName} {cc2 : ByteArray} {ret2 : Option FieldType} {sp : SP} (F : LF g p s m args c b L xs) (hM : MetC g y cc2 maxL ret2 lvc sp) (hk : LnkOK y cc2 maxL ret2 n) (hl : Cond.methodLink R_law idx y ∈ WS) (hq : Cond.instanceMethod y ∈ WS ∧ Cond.selects y.cls y y ∈ WS) (hR : lvc ≤ 10 ∧ maxL ≤ 16) (hcl : ∃ T N, vwCl[t]? = some (y.cls, T, N)) (hks : (t, 0, 0) ∈ KS)
    {pc : Nat} {r : List AV} {rest : List Value} {f : FF} {a : AA} {Z : PT} (hP : gW g f a H) (hS : va_S (gA g) s.heap H locs) (hsz : ls.size = 4) (hc : (rest.map fun v => v.category).sum ≤ 8) (hlen : r.length = n) (hV : ∀ v ∈ r, vld v) (hn : nc ≤ 600000 ∧ ns ≤ 7302250) (hd : decode code pc = .ok (.invokevirtual idx, 3)) (hsp : sp (.inr (.inr (t, 0, 0)) :: r) f a Z)
    (kk : ∀ (r' : Option AV) (f' : FF) (a' : AA) (H1 : Heap) (locs1 : List Loc), Z r' f' a' → gW g f' a' H1 → va_S (gA g) s.heap H1 locs1 → W p (gL g) e room_1 s m args below meth c H1 locs1 nc ns Q (F0 m (pc + 3) ls ((r'.map (cv (gAd g))).toList ++ rest))) :
    W p (gL g) e room_1 s m args below meth c H locs nc ns Q (F0 m pc ls ((r.map (cv (gAd g))).reverse ++ .ref (gAd g (t, 0, 0)) :: rest)) := by
  obtain ⟨hg, hx, hb, hml, hown, hts, hG, -, -, -⟩ := F
  obtain ⟨T, N, hcl⟩ := hcl
  obtain ⟨q0, -, hq0⟩ := cells_at (ad := gAd g) (cy := gCy g) f a hks
  have hrec := va_recv (hg.2.2.1 s hG) hP hcl hq0
  have hcB : CallB room_1 s args R_law idx y cc2 maxL ret2 (Cond.code y cc2 maxL ret2 :: WS) (rmL lvc) 0 0 n := by
    refine callB_of (Ts := WS) n hts (good_ws hk.1) rfl rfl rfl (hts _ hk.2.1) (hts _ hl) ⟨hk.2.2.1.1, hk.2.2.1.2, hk.2.2.2⟩ ⟨?_, ?_⟩
    · show lvc + 1 ≤ 13
      omega
    · show 8 + (maxL + 11) + 35 * lvc ≤ 482
      omega
  have hp : PreV s H y.cls (gAd g (t, 0, 0)) (PreC g (.inr (.inr (t, 0, 0)) :: r) f a) (r.map (cv (gAd g))) := ⟨PreC_blind hg _ f a, hrec, fun U hU hW => ⟨rfl, by rw [hU]; exact hP, hg.2.2.2.1 s U hW (by rw [hU]; exact hS.1) (fun q h1 h2 => by rw [hU]; exact hS.2.1 q h1 h2) hG⟩⟩
  have hM1 := hM _ f a Z (va_ad (v := .inr (.inr (t, 0, 0))) (Or.inl hks) hV) hsp
  have hr := va_runV (e := e) (below := below) (meth := meth) (locs := locs) (cells := nc) (slots := ns) (g := F0 m pc ls ((r.map (cv (gAd g))).reverse ++ .ref (gAd g (t, 0, 0)) :: rest)) (As := r.map (cv (gAd g))) (rest := rest) ⟨hx, hb, hml, hown, hts⟩ hM1 ⟨hcB, hts _ hq.1, hts _ hq.2⟩ hp rfl (by rw [List.length_map]; exact hlen) hsz rfl (lv_room hc) hd hn
  intro T hT X
  obtain ⟨v, st₀, t', T', L', h0, X', hL, e1, e2, ⟨⟨r', f', a', hv, hz, hr', hw⟩, hz1, hk1⟩, st⟩ := hr T hT X
  cases hv
  rw [h0] at hz1 hk1
  rw [← e1] at hw
  obtain ⟨t2, a1, b1⟩ := kk r' f' a' T'.heap (locs ++ L') hz hw
    ⟨Nat.le_trans hS.1 (by rw [e1]; exact hz1), fun q h1 h2 => by rw [e1, hk1 q (Nat.lt_of_lt_of_le h1 hS.1) h2]; exact hS.2.1 q h1 h2, fun q hq => by
      rcases List.mem_append.mp hq with h | h
      · exact hS.2.2 q h
      · exact hL q h⟩ T' rfl X'
  exact ⟨t2, st t2 a1, b1⟩
def csB (pc n i4 i5 : Nat) (off : Int) : Bool := decide (decode code pc = .ok (.aload_n 1, 1)) && (rdB n (pc + 1) && (decide (decode code (pc + 1 + 5 * n) = .ok (.invokevirtual i4, 3)) && (decide (decode code (pc + 1 + 5 * n + 3) = .ok (.aload_n 2, 1)) && (rdB n (pc + 1 + 5 * n + 3 + 1) && (decide (decode code (pc + 1 + 5 * n + 3 + 1 + 5 * n) = .ok (.invokevirtual i5, 3)) && (decide (decode code (pc + 1 + 5 * n + 3 + 1 + 5 * n + 3) = .ok (.if_icmp .eq off, 3)) && decide (((pc + 1 + 5 * n + 3 + 1 + 5 * n + 3 : Nat) : Int) + off = ((964 : Nat) : Int))))))))
/-- one case of the law's body: the system's answer is the reference's -/
theorem caseL {pc n i4 i5 l4 l5 m4 m5 : Nat} {off : Int} {y4 y5 : MethodName} {c4 c5 : ByteArray} {s4 s5 : SP} {f : FF} {a : AA} {A A1 : Ab} {z : Int32} (F : LF g p s m args c b L xs) (hls : lv_has ls 4 (lls g b i)) (hi : i + 5 ≤ L) (hL : L ≤ 2560) (hn : nc ≤ 600000 ∧ ns ≤ 7302250)
    (hP : gW g f a H) (hS : va_S (gA g) s.heap H locs) (hC : RepC f a A) (hM : RepM f a A) (hB : csB pc n i4 i5 off = true) (hn4 : n ≤ 4)
    (hM4 : MetC g y4 c4 m4 (some .int) l4 s4) (hk4 : LnkOK y4 c4 m4 (some .int) n) (hl4 : Cond.methodLink R_law i4 y4 ∈ WS) (hq4 : Cond.instanceMethod y4 ∈ WS ∧ Cond.selects y4.cls y4 y4 ∈ WS) (hR4 : l4 ≤ 10 ∧ m4 ≤ 16) (hc4 : y4.cls = RX4)
    (hM5 : MetC g y5 c5 m5 (some .int) l5 s5) (hk5 : LnkOK y5 c5 m5 (some .int) n) (hl5 : Cond.methodLink R_law i5 y5 ∈ WS) (hq5 : Cond.instanceMethod y5 ∈ WS ∧ Cond.selects y5.cls y5 y5 ∈ WS) (hR5 : l5 ≤ 10 ∧ m5 ≤ 16) (hc5 : y5.cls = RX5)
    (h4 : ∀ Z : PT, (∀ f' a', RepC f' a' A1 → S5 f a f' a' → Z (some (.inl z)) f' a') → s4 (.inr (.inr (4, 0, 0)) :: arx (fun k => xs (i + k)) n) f a Z)
    (h5 : ∀ (f1 : FF) (a1 : AA) (Z : PT), RepM f1 a1 A → (∀ f' a', RepM f' a' A1 → S4 f1 a1 f' a' → Z (some (.inl z)) f' a') → s5 (.inr (.inr (5, 0, 0)) :: arx (fun k => xs (i + k)) n) f1 a1 Z)
    (kk : ∀ (f' : FF) (a' : AA) (H1 : Heap) (locs1 : List Loc), gW g f' a' H1 → va_S (gA g) s.heap H1 locs1 → RepC f' a' A1 → RepM f' a' A1 → W p (gL g) e room_1 s m args below meth c H1 locs1 nc ns Q (F0 m 964 ls [])) :
    W p (gL g) e room_1 s m args below meth c H locs nc ns Q (F0 m pc ls []) := by
  unfold csB at hB
  simp only [Bool.and_eq_true, decide_eq_true_eq] at hB
  obtain ⟨d0, r0, d1, d2, r1, d3, d4, d5⟩ := hB
  refine lv_aload_n F.2.1 F.2.2.1 d0 rfl (lv_at hls 2 rfl) ?_
  refine rdLw F hls hi hL hS n hn4 r0 ?_
  refine callL F hM4 hk4 hl4 hq4 hR4 ⟨TX4, 9, by rw [hc4] <;> rfl⟩ (by decide +kernel) hP hS hls.1 (by show 0 ≤ 8; decide) (arx_len _ n) (arx_vld _ n) hn d1 (h4 (fun r f' a' => r = some (.inl z) ∧ RepC f' a' A1 ∧ S5 f a f' a') (fun f' a' q1 q2 => ⟨rfl, q1, q2⟩)) (fun r' f' a' H1 locs1 hz hP1 hS1 => ?_)
  obtain ⟨rfl, hC1, hs5⟩ := hz
  refine lv_aload_n F.2.1 F.2.2.1 d2 rfl (lv_at hls 1 rfl) ?_
  refine rdLw F hls hi hL hS1 n hn4 r1 ?_
  refine callL F hM5 hk5 hl5 hq5 hR5 ⟨TX5, 28, by rw [hc5] <;> rfl⟩ (by decide +kernel) hP1 hS1 hls.1 (by show 1 + 0 ≤ 8; decide) (arx_len _ n) (arx_vld _ n) hn d3 (h5 f' a' (fun r f'' a'' => r = some (.inl z) ∧ RepM f'' a'' A1 ∧ S4 f' a' f'' a'') (hM.s5 hs5) (fun f' a' q1 q2 => ⟨rfl, q1, q2⟩)) (fun r' f'' a'' H2 locs2 hz hP2 hS2 => ?_)
  obtain ⟨rfl, hM2, hs4⟩ := hz
  exact lv_icmp_eq F.2.1 F.2.2.1 d4 d5 (fun _ => kk f'' a'' H2 locs2 hP2 hS2 (hC1.s4 hs4) hM2) (fun q => absurd rfl q)
end Law1
