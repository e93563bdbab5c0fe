/-! the law's loop -/
theorem law_in {i L : Nat} (hi : i ≤ 2560) (hL : L ≤ 2560) (h : ¬ (nI L - 5 < nI i)) : i + 5 ≤ L := by
  rw [Int32.lt_iff_toInt_lt, show (5 : Int32) = nI 5 from rfl, pk_sub_toInt (by omega) (by omega), nI_toInt (by omega)] at h
  omega
def tsw : Instr := .tableswitch 932 0 27 #[128, 151, 174, 187, 200, 223, 256, 289, 332, 365, 398, 441, 474, 497, 520, 553, 576, 619, 632, 645, 658, 711, 734, 757, 800, 843, 896, 909]
theorem dtsw : decode code 32 = .ok (tsw, 128) := by decide +kernel
section Law2
variable {g : Gm} {p : Program} {e : Env} {s : State} {m : MethodId} {args : Array Value} {below : List Frame} {meth : Method} {c : Code} {Q : State → Prop} {b L nc ns : Nat} {xs : Nat → Int32}
theorem loopL (F : LF g p s m args c b L xs) (hL : L ≤ 2560) (hn : nc ≤ 600000 ∧ ns ≤ 7302250) (kx : ∀ (H : Heap) (locs : List Loc) (ls : Array Slot), va_S (gA g) s.heap H locs → W p (gL g) e room_1 s m args below meth c H locs nc ns Q (F0 m 970 ls [])) :
    ∀ (d i : Nat), L - i ≤ d → i ≤ L → ∀ (f : FF) (a : AA) (A : Ab) (H : Heap) (locs : List Loc) (ls : Array Slot), gW g f a H → va_S (gA g) s.heap H locs → RepC f a A → RepM f a A → OKA A → lv_has ls 4 (lls g b i) → W p (gL g) e room_1 s m args below meth c H locs nc ns Q (F0 m 18 ls []) := by
  intro d
  induction d using Nat.strongRecOn with
  | _ d ih =>
  intro i hd hiL f a A H locs ls hP hS hC hM hO hls
  have hx := F.2.1
  have hb := F.2.2.1
  have hX := F.2.2.2.2.2.2.2.1
  have hbl := F.2.2.2.2.2.2.2.2.1
  have hbA := F.2.2.2.2.2.2.2.2.2
  refine lv_iload_n hx hb (show decode code 18 = .ok (.iload_n 3, 1) by decide +kernel) rfl (lv_at hls 0 rfl) ?_
  refine lv_aload_n hx hb (show decode code 19 = .ok (.aload_n 0, 1) by decide +kernel) rfl (lv_at hls 3 rfl) ?_
  refine va_slen hx hb hX hbl hbA hS (show decode code 20 = .ok (.arraylength, 1) by decide +kernel) ?_
  refine lv_iconst hx hb (show decode code 21 = .ok (.iconst 5, 1) by decide +kernel) (show Int32.ofInt 5 = 5 by decide) ?_
  refine lv_isub hx hb (show decode code 22 = .ok (.isub, 1) by decide +kernel) ?_
  refine lv_icmp_gt (tgt := 970) hx hb (show decode code 23 = .ok (.if_icmp .gt 947, 3) by decide +kernel) (by decide) (fun _ => kx H locs ls hS) (fun hlt => ?_)
  have hi5 : i + 5 ≤ L := law_in (by omega) hL hlt
  refine lv_aload_n hx hb (show decode code 26 = .ok (.aload_n 0, 1) by decide +kernel) rfl (lv_at hls 3 rfl) ?_
  refine lv_iload_n hx hb (show decode code 27 = .ok (.iload_n 3, 1) by decide +kernel) rfl (lv_at hls 0 rfl) ?_
  have hc : (nI i).toNatClampNeg = i := nI_clamp (by omega)
  refine va_sld hx hb hX hbl hbA hS (fun q => ?_) (show decode code 28 = .ok (.iaload, 1) by decide +kernel) ?_
  · rcases q with q | q
    · exact nI_pos (by omega) q
    · rw [hc] at q; omega
  refine lv_bipush hx hb (show decode code 29 = .ok (.bipush 31, 2) by decide +kernel) rfl ?_
  refine lv_iand hx hb (show decode code 31 = .ok (.iand, 1) by decide +kernel) ?_
  have tl : ∀ (f' : FF) (a' : AA) (A' : Ab) (H1 : Heap) (locs1 : List Loc), gW g f' a' H1 → va_S (gA g) s.heap H1 locs1 → RepC f' a' A' → RepM f' a' A' → OKA A' → W p (gL g) e room_1 s m args below meth c H1 locs1 nc ns Q (F0 m 964 ls []) := by
    intro f' a' A' H1 locs1 hP1 hS1 hC1 hM1 hO1
    refine lv_iinc (k := 0) (lv' := lls g b (i + 5)) hx hb (show decode code 964 = .ok (.iinc 3 5, 3) by decide +kernel) hls rfl (nI_add i 5) (by decide) rfl (fun ls' hls' => ?_)
    refine lv_goto (tgt := 18) hx hb (show decode code 967 = .ok (.goto (-949), 3) by decide +kernel) (by decide) ?_
    exact ih (L - (i + 5)) (by omega) (i + 5) (Nat.le_refl _) hi5 f' a' A' H1 locs1 ls' hP1 hS1 hC1 hM1 hO1 hls'
  generalize (xs (nI i).toNatClampNeg &&& (Int8.ofInt 31).toInt32) = v
  by_cases ho : v.toInt < 0 ∨ 27 < v.toInt
  · exact lv_tableOut (tgt := 964) hx hb dtsw ho (by decide) (tl f a A H locs hP hS hC hM hO)
  have go : ∀ (k : Nat) (pc : Nat) (off : Int), v.toInt = (k : Int) → k < 28 → (#[128, 151, 174, 187, 200, 223, 256, 289, 332, 365, 398, 441, 474, 497, 520, 553, 576, 619, 632, 645, 658, 711, 734, 757, 800, 843, 896, 909] : Array Int)[k]? = some off → ((32 : Nat) : Int) + off = (pc : Int) → CsAt pc → W p (gL g) e room_1 s m args below meth c H locs nc ns Q (F0 m 32 ls [.int v]) := by
    intro k pc off hv hk h1 h2 hcs
    refine lv_tableIn (off := off) (tgt := pc) hx hb dtsw (by omega) (by omega) (by rw [show (v.toInt - 0).toNat = k by omega]; exact h1) h2 ?_
    exact hcs g p e s m args below meth c H locs Q ls b L i nc ns xs f a A F hls hi5 hL hn hP hS hC hM hO tl
  obtain ⟨k, hk, hv⟩ : ∃ k : Nat, k < 28 ∧ v.toInt = (k : Int) := ⟨v.toInt.toNat, by omega, by omega⟩
  rcases (show k = 0 ∨ k = 1 ∨ k = 2 ∨ k = 3 ∨ k = 4 ∨ k = 5 ∨ k = 6 ∨ k = 7 ∨ k = 8 ∨ k = 9 ∨ k = 10 ∨ k = 11 ∨ k = 12 ∨ k = 13 ∨ k = 14 ∨ k = 15 ∨ k = 16 ∨ k = 17 ∨ k = 18 ∨ k = 19 ∨ k = 20 ∨ k = 21 ∨ k = 22 ∨ k = 23 ∨ k = 24 ∨ k = 25 ∨ k = 26 ∨ k = 27 by omega) with rfl | rfl | rfl | rfl | rfl | rfl | rfl | rfl | rfl | rfl | rfl | rfl | rfl | rfl | rfl | rfl | rfl | rfl | rfl | rfl | rfl | rfl | rfl | rfl | rfl | rfl | rfl | rfl
  · exact go 0 160 128 hv (by decide) rfl (by decide) cs_feed
  · exact go 1 183 151 hv (by decide) rfl (by decide) cs_end
  · exact go 2 206 174 hv (by decide) rfl (by decide) cs_text
  · exact go 3 219 187 hv (by decide) rfl (by decide) cs_fault
  · exact go 4 232 200 hv (by decide) rfl (by decide) cs_rule
  · exact go 5 255 223 hv (by decide) rfl (by decide) cs_fun
  · exact go 6 288 256 hv (by decide) rfl (by decide) cs_call
  · exact go 7 321 289 hv (by decide) rfl (by decide) cs_argument
  · exact go 8 364 332 hv (by decide) rfl (by decide) cs_graph
  · exact go 9 397 365 hv (by decide) rfl (by decide) cs_word
  · exact go 10 430 398 hv (by decide) rfl (by decide) cs_find
  · exact go 11 473 441 hv (by decide) rfl (by decide) cs_compose
  · exact go 12 506 474 hv (by decide) rfl (by decide) cs_witness
  · exact go 13 529 497 hv (by decide) rfl (by decide) cs_open
  · exact go 14 552 520 hv (by decide) rfl (by decide) cs_add
  · exact go 15 585 553 hv (by decide) rfl (by decide) cs_cut
  · exact go 16 608 576 hv (by decide) rfl (by decide) cs_set
  · exact go 17 651 619 hv (by decide) rfl (by decide) cs_spare
  · exact go 18 664 632 hv (by decide) rfl (by decide) cs_mend
  · exact go 19 677 645 hv (by decide) rfl (by decide) cs_loops
  · exact go 20 690 658 hv (by decide) rfl (by decide) cs_run
  · exact go 21 743 711 hv (by decide) rfl (by decide) cs_keep
  · exact go 22 766 734 hv (by decide) rfl (by decide) cs_back
  · exact go 23 789 757 hv (by decide) rfl (by decide) cs_sheet
  · exact go 24 832 800 hv (by decide) rfl (by decide) cs_lay
  · exact go 25 875 843 hv (by decide) rfl (by decide) cs_read
  · exact go 26 928 896 hv (by decide) rfl (by decide) cs_torn
  · exact go 27 941 909 hv (by decide) rfl (by decide) cs_count
end Law2
