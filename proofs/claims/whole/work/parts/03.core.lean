/-! The abstract machine: values, states, the layout of the one world (the system's object and the reference's), and its cells -/
abbrev Ky : Type := Nat × Nat × Nat
abbrev AV : Type := Int32 ⊕ (Int64 ⊕ Ky)
abbrev FF : Type := Nat → Nat → Nat → Int32
abbrev AA : Type := Nat → Nat → Nat → Nat → Int32
abbrev Lcs : Type := List (Option AV)
abbrev PT : Type := Option AV → FF → AA → Prop
abbrev SP : Type := List AV → FF → AA → PT → Prop
abbrev XT : Type := Nat → Lcs → List AV → FF → AA → Prop
/-- an entry of a code table: pc, instruction, length, next pc, target, targets of a switch, number -/
abbrev Et : Type := Nat × Instr × Nat × Nat × Nat × List Nat × Int32
abbrev vI (x : Int32) : AV := .inl x
abbrev vL (x : Int64) : AV := .inr (.inl x)
abbrev vR (t i k : Nat) : AV := .inr (.inr (t, i, k))
/-- kinds of fields by tag: 0 int, 1 boolean, 2 ints, 3 bytes, 4 booleans, 5 references, 6 an object -/
def fkT : List (List Nat) := [[2,2,2,2,0,0,2,2,2,2,2],[2,2,2,2,0,0],[2,0,0],[3,0,0,0,0,0],[6,6,6,6,5,4,5,1,0],[2,2,4,2,2,0,0,0,0,0,0,0,2,2,2,2,2,2,0,2,0,2,2,2,2,2,0,2]]
def alT : List (List Nat) := [[729,729,12,3,0,0,729,729,729,729,729],[3,12,12,24,0,0],[40,0,0],[160,0,0,0,0,0],[0,0,0,0,2,2,4,0,0],[101,202,2,101,160,0,0,0,0,0,0,0,729,729,729,729,729,729,0,729,0,2,2,4,4,160,0,101]]
def ntT : List Nat := [1, 4, 4, 1, 1, 1]
def fk (t k : Nat) : Nat := (fkT.getD t []).getD k 9
def al (t k : Nat) : Nat := (alT.getD t []).getD k 0
def nfl (t : Nat) : Nat := (fkT.getD t []).length
/-- where an object field of the system's object points; where its rows of references begin -/
def oref (k : Nat) : Ky := match k with
  | 0 => (3, 0, 0)
  | 1 => (1, 0, 0)
  | 2 => (1, 1, 0)
  | _ => (0, 0, 0)
def raf (k : Nat) : Nat × Nat := match k with
  | 4 => (1, 2)
  | _ => (2, 0)
def gfv (f : FF) (t i k : Nat) : AV := match fk t k with
  | 0 => .inl (f t i k)
  | 1 => .inl (f t i k)
  | 6 => .inr (.inr (oref k))
  | _ => .inr (.inr (t, i, k + 1))
def upf (f : FF) (t i k : Nat) (x : Int32) : FF := fun t' i' k' => if t' = t ∧ i' = i ∧ k' = k then x else f t' i' k'
def upA (a : AA) (t i k : Nat) (g : Nat → Int32) : AA := fun t' i' k' => if t' = t ∧ i' = i ∧ k' = k then g else a t' i' k'
def upa (a : AA) (t i k : Nat) (j : Nat) (x : Int32) : AA := upA a t i k (upd (a t i k) j x)
def cv (ad : Ky → Nat) (v : AV) : Value := match v with
  | .inl x => .int x
  | .inr (.inl x) => .long x
  | .inr (.inr k) => .ref (ad k)
def el (ad : Ky → Nat) (cy : Nat → ClassId) (f : FF) (a : AA) (q : Ky) : va_E := match q with
  | (t, i, 0) => .inr (t, (List.range (nfl t)).map (fun k => cv ad (gfv f t i k)))
  | (t, i, k + 1) => match fk t k with
    | 2 => .inl (cy 0, al t k, .inl (a t i k))
    | 3 => .inl (cy 1, al t k, .inl (a t i k))
    | 4 => .inl (cy 2, al t k, .inl (a t i k))
    | _ => .inl (cy (2 + (raf k).1), al t k, .inr (.inr (.inr (.inr (fun j => some (ad ((raf k).1, (raf k).2 + j, 0)))))))
def ksT (t i : Nat) : List Ky := (t, i, 0) :: ((List.range (nfl t)).filter (fun k => Nat.ble 2 (fk t k) && Nat.ble (fk t k) 5)).map (fun k => (t, i, k + 1))
def KS : List Ky := (List.range 6).flatMap (fun t => (List.range (ntT.getD t 0)).flatMap (fun i => ksT t i))
def cells (ad : Ky → Nat) (cy : Nat → ClassId) (f : FF) (a : AA) : va_W := KS.map (fun q => (ad q, el ad cy f a q))
def tyl (cy : Nat → ClassId) : List (ClassId × FieldType) := [(cy 0, .int), (cy 1, .byte), (cy 2, .boolean), (cy 3, .object "FallingCalls$Program"), (cy 4, .object "FallingCalls$Sheet")]
/-- a key that stands for a cell: of the world, or the i-th text constant -/
def kok (k : Ky) : Prop := k ∈ KS ∨ (k.1 = 9 ∧ k.2.1 < 4 ∧ k.2.2 = 0)
def vld (v : AV) : Prop := match v with
  | .inr (.inr k) => kok k
  | _ => True
/-! what moves: the words, the rooms -/
def WS : List Cond := lw_tbl.filter goodWord
def rmL (d : Nat) : Room := { frames := d, cells := 0, slots := 0, locals := 35 * d }
/-- the world's constants: launch, addresses, field layout, array kinds, what else holds of a state, the cells that may change -/
abbrev Gm : Type := Launch × (Ky → Nat) × va_G × (Nat → ClassId) × (State → Prop) × (Nat → Prop)
abbrev gL (g : Gm) : Launch := g.1
abbrev gAd (g : Gm) : Ky → Nat := g.2.1
abbrev gD (g : Gm) : va_G := g.2.2.1
abbrev gCy (g : Gm) : Nat → ClassId := g.2.2.2.1
abbrev gG (g : Gm) : State → Prop := g.2.2.2.2.1
abbrev gA (g : Gm) : Nat → Prop := g.2.2.2.2.2
/-- what the start gives of nest mates, constants and statics -/
def nestW : List Cond := lw_tbl.filter (fun w => match w with
  | .methodLinkNest _ _ _ _ => true
  | _ => false)
def strI (i : Nat) : Nat := [28, 38, 92, 94].getD i 0
def strN (i : Nat) : String := ["fun", "call", "b", "a"].getD i ""
def strB : List (List Int32) := [[102, 117, 110], [99, 97, 108, 108], [98], [97]]
def powT : List Int32 := [0, 1, 3, 4, 9, 10, 12, 13, 27, 28, 30, 31, 36, 37, 39, 40]
def gX (ad : Ky → Nat) (A : Nat → Prop) (U : State) : Prop := (∀ w ∈ nestW, va_Nw w U) ∧
  (∃ pw, va_Z "FallingCalls$Graphs" "POWERS" "[I" (.ref pw) A U U.heap ∧ va_T .int pw 16 (fun j => .int (powT.getD j 0)) A U U.heap) ∧
  (∃ adV, vk_S 4 [3, 4, 1, 1] strB (fun i => ad (9, i, 0)) adV A U U.heap) ∧ (∀ i, i < 4 → vk_R RX3 (strI i) (strN i) (ad (9, i, 0)) U) ∧
  va_Z "java/lang/String" "COMPACT_STRINGS" "Z" (.int 1) A U U.heap ∧ va_Zq "jdk/internal/util/Preconditions" "SIOOBE_FORMATTER" "Ljava/util/function/BiFunction;" A U U.heap
def GmOK (g : Gm) : Prop :=
  (∀ p q, p ∈ KS → q ∈ KS → gAd g p = gAd g q → p = q) ∧ (∀ p, p ∈ KS → gA g (gAd g p)) ∧
  (∀ U, gG g U → va_K (gD g) vwCl (tyl (gCy g)) U) ∧
  (∀ U U' : State, U.WarmedH U'.vm → U.heap.size ≤ U'.heap.size → (∀ q : Nat, q < U.heap.size → ¬ gA g q → U'.heap[q]? = U.heap[q]?) → gG g U → gG g U') ∧
  (∀ U, gG g U → gX (gAd g) (gA g) U)
def gW (g : Gm) (f : FF) (a : AA) (H : Heap) : Prop := va_P (gD g) vwCl (cells (gAd g) (gCy g) f a) H
def PreC (g : Gm) (av : List AV) (f : FF) (a : AA) : Array Value → State → Prop := fun v U => v = (av.map (cv (gAd g))).toArray ∧ gW g f a U.heap ∧ gG g U
def PostC (g : Gm) (post : PT) : Array Value → State → Outcome → State → Prop := fun _ st o t =>
  (∃ (r : Option AV) (f' : FF) (a' : AA), o = .returned (r.map (cv (gAd g))) ∧ post r f' a' ∧ (∀ v, r = some v → vld v) ∧ gW g f' a' t.heap) ∧ va_F (gA g) st t
/-- a method's contract by a predicate transformer, at a level of depth -/
def MetC (g : Gm) (y : MethodName) (cc : ByteArray) (maxL : Nat) (ret : Option FieldType) (lvl : Nat) (sp : SP) : Prop :=
  ∀ (av : List AV) (f : FF) (a : AA) (post : PT), (∀ v ∈ av, vld v) → sp av f a post → Met (gL g) y (Cond.code y cc maxL ret :: WS) (rmL lvl) (PreC g av f a) (PostC g post) 0 0 (gA g)
/-! places of a frame -/
def lget : Lcs → Nat → Option AV
  | [], _ => none
  | v :: _, 0 => v
  | _ :: r, n + 1 => lget r n
def lset : Lcs → Nat → Option AV → Lcs
  | [], _, _ => []
  | _ :: r, 0, x => x :: r
  | v :: r, n + 1, x => v :: lset r n x
/-- the place ahead holds no long -/
def nol : Lcs → Nat → Bool
  | _, 0 => true
  | ls, n + 1 => match lget ls n with
    | some (.inr (.inl _)) => false
    | _ => true
/-- the list is brought into its plain form ahead of what goes on -/
def frc : Lcs → (Lcs → Prop) → Prop
  | [], k => k []
  | v :: r, k => frc r (fun r' => k (v :: r'))
def ent : List AV → Lcs
  | [] => []
  | .inr (.inl x) :: r => some (.inr (.inl x)) :: none :: ent r
  | .inl x :: r => some (.inl x) :: ent r
  | .inr (.inr k) :: r => some (.inr (.inr k)) :: ent r
def padL : Nat → Lcs → Lcs
  | 0, _ => []
  | n + 1, [] => none :: padL n []
  | n + 1, v :: r => v :: padL n r
def LV (ad : Ky → Nat) (nL : Nat) (ls : Lcs) (A : Array Slot) : Prop := ls.length = nL ∧ ∃ lv, lv_has A nL lv ∧ ∀ (j : Nat) (v : AV), lget ls j = some v → (j, cv ad v) ∈ lv ∧ vld v
/-! code tables -/
def lkc : List Et → Nat → Option Et
  | [], _ => none
  | e :: r, pc => bif Nat.beq e.1 pc then some e else lkc r pc
def lk : List (Nat × List Et) → Nat → Option Et
  | [], _ => none
  | c :: r, pc => bif Nat.ble pc c.1 then lkc c.2 pc else lk r pc
def jmpI (i : Instr) : Option Int := match i with
  | .goto o => some o
  | .if_icmp _ o => some o
  | .ifCond _ o => some o
  | .tableswitch d _ _ _ => some d
  | _ => none
def numI (i : Instr) : Option Int32 := match i with
  | .iconst n => some (Int32.ofInt n)
  | .bipush n => some (Int8.ofInt n).toInt32
  | .sipush n => some (Int16.ofInt n).toInt32
  | .iinc _ n => some (Int32.ofInt n)
  | _ => none
def swI (i : Instr) : List Int := match i with
  | .tableswitch _ _ _ o => o.toList
  | _ => []
def lenI (i : Instr) : Nat := match i with
  | .bipush _ | .ldc _ | .iload _ | .lload _ | .aload _ | .istore _ | .lstore _ | .astore _ => 2
  | .sipush _ | .ldc_w _ | .ldc2_w _ | .iinc _ _ | .goto _ | .if_icmp _ _ | .ifCond _ _ | .getfield _ | .putfield _ | .getstatic _ | .invokevirtual _ | .invokestatic _ => 3
  | .tableswitch _ _ _ _ => 0
  | _ => 1
def szI (i : Instr) : Bool := match i with
  | .tableswitch _ lo hi o => decide (hi - lo + 1 = (o.toList.length : Int))
  | _ => true
def okE (cc : ByteArray) (e : Et) : Bool :=
  decide (decode cc e.1 = .ok (e.2.1, e.2.2.1)) && (Nat.beq (lenI e.2.1) 0 || Nat.beq (lenI e.2.1) e.2.2.1) && Nat.beq e.2.2.2.1 (e.1 + e.2.2.1) && (match jmpI e.2.1 with
    | some o => decide ((e.1 : Int) + o = (e.2.2.2.2.1 : Int))
    | none => true) && (match numI e.2.1 with
    | some n => decide (n = e.2.2.2.2.2.2)
    | none => true) && decide ((swI e.2.1).map (fun o => (e.1 : Int) + o) = e.2.2.2.2.2.1.map (fun (t : Nat) => (t : Int))) && szI e.2.1
def okT (cc : ByteArray) (T : List (Nat × List Et)) : Bool := T.all (fun ch => ch.2.all (okE cc))
/-! one step -/
abbrev En : Type := List (Nat × List Et) × List (Nat × Bool × Nat × SP) × List (Nat × Nat × Nat) × List (Nat × AV) × Nat
def as2 {α : Type} : List (Nat × α) → Nat → Option α
  | [], _ => none
  | e :: r, n => bif Nat.beq e.1 n then some e.2 else as2 r n
def popA : Nat → List AV → List AV → (List AV → List AV → Prop) → Prop
  | 0, acc, st, k => k acc st
  | n + 1, acc, v :: st, k => popA n (v :: acc) st k
  | _ + 1, _, [], _ => False
def cat1 (v : AV) : Nat := match v with
  | .inr (.inl _) => 2
  | _ => 1
def cats : List AV → Nat
  | [] => 0
  | v :: r => cat1 v + cats r
def ldI (X : XT) (n nxt : Nat) (ls : Lcs) (st : List AV) (f : FF) (a : AA) : Prop := match lget ls n with
  | some (.inl x) => X nxt ls (.inl x :: st) f a
  | _ => False
def ldL (X : XT) (n nxt : Nat) (ls : Lcs) (st : List AV) (f : FF) (a : AA) : Prop := match lget ls n with
  | some (.inr (.inl x)) => X nxt ls (.inr (.inl x) :: st) f a
  | _ => False
def ldA (X : XT) (n nxt : Nat) (ls : Lcs) (st : List AV) (f : FF) (a : AA) : Prop := match lget ls n with
  | some (.inr (.inr k)) => X nxt ls (.inr (.inr k) :: st) f a
  | _ => False
def stI (X : XT) (n nxt : Nat) (ls : Lcs) (st : List AV) (f : FF) (a : AA) : Prop := match st, nol ls n, Nat.blt n ls.length with
  | .inl x :: r, true, true => frc (lset ls n (some (.inl x))) (fun ls' => X nxt ls' r f a)
  | _, _, _ => False
def stA (X : XT) (n nxt : Nat) (ls : Lcs) (st : List AV) (f : FF) (a : AA) : Prop := match st, nol ls n, Nat.blt n ls.length with
  | .inr (.inr k) :: r, true, true => frc (lset ls n (some (.inr (.inr k)))) (fun ls' => X nxt ls' r f a)
  | _, _, _ => False
def stL (X : XT) (n nxt : Nat) (ls : Lcs) (st : List AV) (f : FF) (a : AA) : Prop := match st, nol ls n, Nat.blt (n + 1) ls.length with
  | .inr (.inl x) :: r, true, true => frc (lset (lset ls n (some (.inr (.inl x)))) (n + 1) none) (fun ls' => X nxt ls' r f a)
  | _, _, _ => False
def op2 (X : XT) (o : Int32 → Int32 → Int32) (nxt : Nat) (ls : Lcs) (st : List AV) (f : FF) (a : AA) : Prop := match st with
  | .inl y :: .inl x :: r => X nxt ls (.inl (o x y) :: r) f a
  | _ => False
def op1 (X : XT) (o : Int32 → Int32) (nxt : Nat) (ls : Lcs) (st : List AV) (f : FF) (a : AA) : Prop := match st with
  | .inl x :: r => X nxt ls (.inl (o x) :: r) f a
  | _ => False
def dv2 (X : XT) (o : Int32 → Int32 → Int32) (nxt : Nat) (ls : Lcs) (st : List AV) (f : FF) (a : AA) : Prop := match st with
  | .inl y :: .inl x :: r => ¬ y = 0 ∧ X nxt ls (.inl (o x y) :: r) f a
  | _ => False
def br1 (X : XT) (c : Jvm.ClassFile.Cond) (nxt tgt : Nat) (ls : Lcs) (st : List AV) (f : FF) (a : AA) : Prop := match c, st with
  | .eq, .inl x :: r => (x = 0 → X tgt ls r f a) ∧ (¬ x = 0 → X nxt ls r f a)
  | .ne, .inl x :: r => (¬ x = 0 → X tgt ls r f a) ∧ (x = 0 → X nxt ls r f a)
  | .lt, .inl x :: r => (x < 0 → X tgt ls r f a) ∧ (¬ x < 0 → X nxt ls r f a)
  | .ge, .inl x :: r => (0 ≤ x → X tgt ls r f a) ∧ (¬ 0 ≤ x → X nxt ls r f a)
  | .gt, .inl x :: r => (0 < x → X tgt ls r f a) ∧ (¬ 0 < x → X nxt ls r f a)
  | .le, .inl x :: r => (x ≤ 0 → X tgt ls r f a) ∧ (¬ x ≤ 0 → X nxt ls r f a)
  | _, _ => False
def br2 (X : XT) (c : Jvm.ClassFile.Cond) (nxt tgt : Nat) (ls : Lcs) (st : List AV) (f : FF) (a : AA) : Prop := match c, st with
  | .eq, .inl y :: .inl x :: r => (x = y → X tgt ls r f a) ∧ (¬ x = y → X nxt ls r f a)
  | .ne, .inl y :: .inl x :: r => (¬ x = y → X tgt ls r f a) ∧ (x = y → X nxt ls r f a)
  | .lt, .inl y :: .inl x :: r => (x < y → X tgt ls r f a) ∧ (¬ x < y → X nxt ls r f a)
  | .ge, .inl y :: .inl x :: r => (y ≤ x → X tgt ls r f a) ∧ (¬ y ≤ x → X nxt ls r f a)
  | .gt, .inl y :: .inl x :: r => (y < x → X tgt ls r f a) ∧ (¬ y < x → X nxt ls r f a)
  | .le, .inl y :: .inl x :: r => (x ≤ y → X tgt ls r f a) ∧ (¬ x ≤ y → X nxt ls r f a)
  | _, _ => False
def allT (x : Int32) (P : Nat → Prop) : List Nat → Nat → Int → Prop
  | [], _, _ => True
  | t :: ts, j, lo => (x.toInt = lo + (j : Int) → P t) ∧ allT x P ts (j + 1) lo
def getF (X : XT) (tk : Option (Nat × Nat)) (nxt : Nat) (ls : Lcs) (st : List AV) (f : FF) (a : AA) : Prop := match tk, st with
  | some (t, k), .inr (.inr (t', i, 0)) :: r => bif Nat.beq t t' then X nxt ls (gfv f t i k :: r) f a else False
  | _, _ => False
def putF (X : XT) (tk : Option (Nat × Nat)) (nxt : Nat) (ls : Lcs) (st : List AV) (f : FF) (a : AA) : Prop := match tk, st with
  | some (t, k), .inl x :: .inr (.inr (t', i, 0)) :: r => bif Nat.beq t t' then (match fk t k with
      | 0 => X nxt ls r (upf f t i k x) a
      | 1 => (x = 0 ∨ x = 1) ∧ X nxt ls r (upf f t i k x) a
      | _ => False) else False
  | _, _ => False
def ldX (X : XT) (w : Nat → Bool) (nxt : Nat) (ls : Lcs) (st : List AV) (f : FF) (a : AA) : Prop := match st with
  | .inl j :: .inr (.inr (t, i, k + 1)) :: r => bif w (fk t k) then (vp_in j (al t k) ∧ X nxt ls (.inl (a t i k j.toNatClampNeg) :: r) f a) else False
  | _ => False
def ldR (X : XT) (nxt : Nat) (ls : Lcs) (st : List AV) (f : FF) (a : AA) : Prop := match st with
  | .inl j :: .inr (.inr (t, i, k + 1)) :: r => bif Nat.beq (fk t k) 5 && Nat.beq t 4 then (vp_in j (al t k) ∧ X nxt ls (.inr (.inr ((raf k).1, (raf k).2 + j.toNatClampNeg, 0)) :: r) f a) else False
  | _ => False
def alN (X : XT) (nxt : Nat) (ls : Lcs) (st : List AV) (f : FF) (a : AA) : Prop := match st with
  | .inr (.inr (t, i, k + 1)) :: r => X nxt ls (.inl (Int32.ofNat (al t k)) :: r) f a
  | _ => False
def stX (X : XT) (nxt : Nat) (ls : Lcs) (st : List AV) (f : FF) (a : AA) : Prop := match st with
  | .inl x :: .inl j :: .inr (.inr (t, i, k + 1)) :: r => bif Nat.beq (fk t k) 2 then (vp_in j (al t k) ∧ X nxt ls r f (upa a t i k j.toNatClampNeg x)) else False
  | _ => False
def stB (X : XT) (nxt : Nat) (ls : Lcs) (st : List AV) (f : FF) (a : AA) : Prop := match st with
  | .inl x :: .inl j :: .inr (.inr (t, i, k + 1)) :: r => match fk t k with
    | 3 => vp_in j (al t k) ∧ X nxt ls r f (upa a t i k j.toNatClampNeg (vp_nar .byte x))
    | 4 => vp_in j (al t k) ∧ X nxt ls r f (upa a t i k j.toNatClampNeg (vp_nar .boolean x))
    | _ => False
  | _ => False
def retI (rt : Nat) (post : PT) (st : List AV) (f : FF) (a : AA) : Prop := match rt, st with
  | 0, [.inl x] => post (some (.inl x)) f a
  | 1, [.inl x] => (x = 0 ∨ x = 1) ∧ post (some (.inl x)) f a
  | _, _ => False
def retV (rt : Nat) (post : PT) (st : List AV) (f : FF) (a : AA) : Prop := match rt, st with
  | 2, [] => post none f a
  | _, _ => False
def retA (rt : Nat) (post : PT) (st : List AV) (f : FF) (a : AA) : Prop := match rt, st with
  | 3, [.inr (.inr k)] => post (some (.inr (.inr k))) f a
  | _, _ => False
def callX (X : XT) (b : Bool) (ns : Option (Bool × Nat × SP)) (nxt : Nat) (ls : Lcs) (st : List AV) (f : FF) (a : AA) : Prop := match b, ns with
  | true, some (true, n, sp) => popA n [] st (fun As r => bif Nat.ble (cats r) 8 then sp As f a (fun v f' a' => X nxt ls (v.toList ++ r) f' a') else False)
  | false, some (false, n, sp) => popA n [] st (fun As r => bif Nat.ble (cats r) 8 then sp As f a (fun v f' a' => X nxt ls (v.toList ++ r) f' a') else False)
  | _, _ => False
def ldcX (X : XT) (v : Option AV) (nxt : Nat) (ls : Lcs) (st : List AV) (f : FF) (a : AA) : Prop := match v with
  | some (.inl x) => X nxt ls (.inl x :: st) f a
  | some (.inr (.inr k)) => X nxt ls (.inr (.inr k) :: st) f a
  | _ => False
def ldwX (X : XT) (v : Option AV) (nxt : Nat) (ls : Lcs) (st : List AV) (f : FF) (a : AA) : Prop := match v with
  | some (.inl x) => X nxt ls (.inl x :: st) f a
  | _ => False
def ld2X (X : XT) (v : Option AV) (nxt : Nat) (ls : Lcs) (st : List AV) (f : FF) (a : AA) : Prop := match v with
  | some (.inr (.inl x)) => X nxt ls (.inr (.inl x) :: st) f a
  | _ => False
/-- by which instruction a constant comes -/
def cstI (i : Instr) (idx : Nat) (v : AV) : Prop := match v with
  | .inl _ => i = .ldc idx ∨ i = .ldc_w idx
  | .inr (.inl _) => i = .ldc2_w idx
  | .inr (.inr _) => i = .ldc idx
def dupX (X : XT) (nxt : Nat) (ls : Lcs) (st : List AV) (f : FF) (a : AA) : Prop := match st with
  | .inl x :: r => X nxt ls (.inl x :: .inl x :: r) f a
  | .inr (.inr k) :: r => X nxt ls (.inr (.inr k) :: .inr (.inr k) :: r) f a
  | _ => False
def dp2X (X : XT) (nxt : Nat) (ls : Lcs) (st : List AV) (f : FF) (a : AA) : Prop := match st with
  | .inl x :: .inr (.inr k) :: r => X nxt ls (.inl x :: .inr (.inr k) :: .inl x :: .inr (.inr k) :: r) f a
  | _ => False
def incX (X : XT) (n : Nat) (iv : Int32) (nxt : Nat) (ls : Lcs) (st : List AV) (f : FF) (a : AA) : Prop := match lget ls n, nol ls n with
  | some (.inl x), true => frc (lset ls n (some (.inl (x + iv)))) (fun ls' => X nxt ls' st f a)
  | _, _ => False
def ins (E : En) (post : PT) (X : XT) (i : Instr) (nxt tgt : Nat) (ts : List Nat) (iv : Int32) (ls : Lcs) (st : List AV) (f : FF) (a : AA) : Prop := match i with
  | .iconst _ => X nxt ls (.inl iv :: st) f a
  | .bipush _ => X nxt ls (.inl iv :: st) f a
  | .sipush _ => X nxt ls (.inl iv :: st) f a
  | .lconst n => X nxt ls (.inr (.inl (Int64.ofNat n.val)) :: st) f a
  | .ldc n => ldcX X (as2 E.2.2.2.1 n) nxt ls st f a
  | .ldc_w n => ldwX X (as2 E.2.2.2.1 n) nxt ls st f a
  | .ldc2_w n => ld2X X (as2 E.2.2.2.1 n) nxt ls st f a
  | .iload_n n => ldI X n.val nxt ls st f a
  | .iload n => ldI X n nxt ls st f a
  | .lload_n n => ldL X n.val nxt ls st f a
  | .lload n => ldL X n nxt ls st f a
  | .aload_n n => ldA X n.val nxt ls st f a
  | .aload n => ldA X n nxt ls st f a
  | .istore_n n => stI X n.val nxt ls st f a
  | .istore n => stI X n nxt ls st f a
  | .astore_n n => stA X n.val nxt ls st f a
  | .astore n => stA X n nxt ls st f a
  | .lstore n => stL X n nxt ls st f a
  | .iinc n _ => incX X n iv nxt ls st f a
  | .iadd => op2 X (fun x y => x + y) nxt ls st f a
  | .isub => op2 X (fun x y => x - y) nxt ls st f a
  | .imul => op2 X (fun x y => x * y) nxt ls st f a
  | .iand => op2 X (fun x y => x &&& y) nxt ls st f a
  | .ior => op2 X (fun x y => x ||| y) nxt ls st f a
  | .ixor => op2 X (fun x y => x ^^^ y) nxt ls st f a
  | .ishl => op2 X (fun x y => x <<< (y &&& 31)) nxt ls st f a
  | .ishr => op2 X (fun x y => x >>> (y &&& 31)) nxt ls st f a
  | .iushr => op2 X (fun x y => (x.toUInt32 >>> (y.toUInt32 &&& Int32.toUInt32 31)).toInt32) nxt ls st f a
  | .idiv => dv2 X (fun x y => x / y) nxt ls st f a
  | .irem => dv2 X (fun x y => x - x / y * y) nxt ls st f a
  | .i2b => op1 X (fun x => x.toInt8.toInt32) nxt ls st f a
  | .i2s => op1 X (fun x => x.toInt16.toInt32) nxt ls st f a
  | .i2l => match st with
    | .inl x :: r => X nxt ls (.inr (.inl x.toInt64) :: r) f a
    | _ => False
  | .ladd => match st with
    | .inr (.inl y) :: .inr (.inl x) :: r => X nxt ls (.inr (.inl (x + y)) :: r) f a
    | _ => False
  | .lcmp => match st with
    | .inr (.inl y) :: .inr (.inl x) :: r => X nxt ls (.inl (lg_cmp x y) :: r) f a
    | _ => False
  | .dup => dupX X nxt ls st f a
  | .dup2 => dp2X X nxt ls st f a
  | .pop => match st with
    | .inl _ :: r => X nxt ls r f a
    | _ => False
  | .goto _ => X tgt ls st f a
  | .ifCond c _ => br1 X c nxt tgt ls st f a
  | .if_icmp c _ => br2 X c nxt tgt ls st f a
  | .tableswitch _ lo hi _ => match st with
    | .inl x :: r => allT x (fun t => X t ls r f a) ts 0 lo ∧ (x.toInt < lo ∨ hi < x.toInt → X tgt ls r f a)
    | _ => False
  | .getfield n => getF X (as2 E.2.2.1 n) nxt ls st f a
  | .putfield n => putF X (as2 E.2.2.1 n) nxt ls st f a
  | .iaload => ldX X (fun n => Nat.beq n 2) nxt ls st f a
  | .baload => ldX X (fun n => Nat.beq n 3 || Nat.beq n 4) nxt ls st f a
  | .aaload => ldR X nxt ls st f a
  | .arraylength => alN X nxt ls st f a
  | .iastore => stX X nxt ls st f a
  | .bastore => stB X nxt ls st f a
  | .invokevirtual n => callX X false (as2 E.2.1 n) nxt ls st f a
  | .invokestatic n => callX X true (as2 E.2.1 n) nxt ls st f a
  | .ireturn => retI E.2.2.2.2 post st f a
  | .areturn => retA E.2.2.2.2 post st f a
  | .return_ => retV E.2.2.2.2 post st f a
  | _ => False
def stp (E : En) (post : PT) (X : XT) (pc : Nat) (ls : Lcs) (st : List AV) (f : FF) (a : AA) : Prop := match lk E.1 pc with
  | some (_, i, _, nxt, tgt, ts, iv) => ins E post X i nxt tgt ts iv ls st f a
  | none => False
def inB : List Nat → Nat → Bool
  | [], _ => false
  | b :: r, n => Nat.beq b n || inB r n
/-- many steps, up to the places of B -/
def sym (E : En) (post : PT) (X : XT) (B : List Nat) : Nat → XT
  | 0 => X
  | n + 1 => fun pc ls st f a => stp E post (fun pc' ls' st' f' a' => bif inB B pc' then X pc' ls' st' f' a' else sym E post X B n pc' ls' st' f' a') pc ls st f a
/-- X is closed under what the machine does -/
def Clo (E : En) (post : PT) (X : XT) : Prop := ∀ (B : List Nat) (n pc : Nat) (ls : Lcs) (st : List AV) (f : FF) (a : AA), sym E post X B n pc ls st f a → X pc ls st f a
/-! calls, fields and constants that a method's text may use -/
def CallOK (g : Gm) (lvl : Nat) (own : String) (idx : Nat) (b : Bool) (n : Nat) (sp : SP) : Prop :=
  ∀ (p : Program) (e : Env) (s : State) (m : MethodId) (args : Array Value) (below : List Frame) (meth : Method) (c : Code) (cc : ByteArray) (nL : Nat) (Qg : State → Prop) (H : Heap) (locs : List Loc) (ls : Array Slot) (pc : Nat) (As rest : List AV) (f : FF) (a : AA) (Q : PT),
    p.tables.exec = Jvm.exec → c.code = cc → c.maxLocals = nL → s.vm.findClass own = some m.cls → (∀ w ∈ WS, w.before args s = true) → gG g s → gW g f a H → va_S (gA g) s.heap H locs → ls.size = nL → cats rest ≤ 8 → As.length = n → (∀ v ∈ As, vld v) →
    decode cc pc = .ok (bif b then .invokestatic idx else .invokevirtual idx, 3) → sp As f a Q →
    (∀ (r : Option AV) (f' : FF) (a' : AA) (H1 : Heap) (locs1 : List Loc), Q r f' a' → (∀ v, r = some v → vld v) → gW g f' a' H1 → va_S (gA g) s.heap H1 locs1 → W p (gL g) e (rmL lvl) s m args below meth c H1 locs1 0 0 Qg (F0 m (pc + 3) ls ((r.toList ++ rest).map (cv (gAd g))))) →
    W p (gL g) e (rmL lvl) s m args below meth c H locs 0 0 Qg (F0 m pc ls ((As.reverse ++ rest).map (cv (gAd g))))
def CstOK (g : Gm) (own : String) (idx : Nat) (v : AV) : Prop :=
  ∀ (p : Program) (e : Env) (R : Room) (s : State) (m : MethodId) (args : Array Value) (below : List Frame) (meth : Method) (c : Code) (cc : ByteArray) (Qg : State → Prop) (H : Heap) (locs : List Loc) (ls : Array Slot) (pc len : Nat) (rest : List Value) (i : Instr),
    p.tables.exec = Jvm.exec → c.code = cc → s.vm.findClass own = some m.cls → (∀ w ∈ WS, w.before args s = true) → gG g s → va_S (gA g) s.heap H locs →
    decode cc pc = .ok (i, len) → len = lenI i → cstI i idx v → W p (gL g) e R s m args below meth c H locs 0 0 Qg (F0 m (pc + len) ls (cv (gAd g) v :: rest)) →
    W p (gL g) e R s m args below meth c H locs 0 0 Qg (F0 m pc ls rest)
def FldOK (own : String) (idx t k : Nat) : Prop :=
  ∃ (C : String) (T : u_T) (N : Nat), vwCl[t]? = some (C, T, N) ∧ k < N ∧ Cond.fieldLink own idx (T k).1 (T k).2.1 (T k).2.2.1 ∈ WS ∧ ∀ w ∈ u_ws C T N, w ∈ WS
