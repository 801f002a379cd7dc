/-! THE SMALL MACHINE: values by whole numbers, cells by numbers from 0 on (0: the law's script; k + 1: the k-th cell made), methods by their number in zM. -/
abbrev ZV : Type := Int ⊕ Int ⊕ Option Nat
abbrev ZS : Type := (Nat × Nat) × (Nat → Nat) × (Nat → Nat) × (Nat → Nat → Option Nat)
abbrev ZC : Type := Nat → Nat → Int
abbrev ZL : Type := List (Option ZV)
abbrev ZO : Type := Nat × ZL × List ZV × ZS × ZC
def z32 (x : Int) : Int := (Int32.ofInt x).toInt
def z64 (x : Int) : Int := (Int64.ofInt x).toInt
def zb (g : Int32 → Int32 → Int32) (a b : Int) : Int := (g (Int32.ofInt a) (Int32.ofInt b)).toInt
def zu (g : Int32 → Int32) (a : Int) : Int := (g (Int32.ofInt a)).toInt
def zRf (k j : Nat) : Bool := (zRl.getD k []).getD j false
def zFn (k j : Nat) : Bool := (zFl.getD k []).getD j false
def zKd (k : Nat) : vw_C := zCl.getD k ("", zT0, 0)
/-- a function changed at one place, and a table changed at one place -/
def zup {α : Type} (f : Nat → α) (k : Nat) (v : α) : Nat → α := fun i => if i = k then v else f i
def zup2 {α : Type} (f : Nat → Nat → α) (a j : Nat) (v : α) : Nat → Nat → α := fun i k => if i = a ∧ k = j then v else f i k
def zrow {α : Type} (f : Nat → Nat → α) (a : Nat) (g : Nat → α) : Nat → Nat → α := fun i k => if i = a then g k else f i k
/-- a new cell of kind k, length n, size w -/
def zmk (S : ZS) (k n w : Nat) : ZS := ((S.1.1 + 1, S.1.2 + w), zup S.2.1 S.1.1 k, zup S.2.2.1 S.1.1 n, zrow S.2.2.2 S.1.1 (fun _ => none))
def zmkC (S : ZS) (C : ZC) : ZC := zrow C S.1.1 (fun _ => 0)
/-- n inner rows of k ints -/
def zin (k : Nat) : Nat → ZS → ZC → ZS × ZC
  | 0, S, C => (S, C)
  | n + 1, S, C => zin k n (zmk S 8 k k) (zmkC S C)
def zcpy (f g : Nat → Int) (sp dp n : Nat) : Nat → Int := fun k => if dp ≤ k ∧ k < dp + n then f (sp + (k - dp)) else g k
/-- a long that reaches over the place k is gone when k is written -/
def zcl1 (o : Option ZV) : Option ZV := match o with
  | some (.inr (.inl _)) => none
  | o => o
def zclr (ls : ZL) (k : Nat) : ZL := match k with
  | 0 => ls
  | j + 1 => ls.set j (zcl1 (ls.getD j none))
def zset (ls : ZL) (k : Nat) (v : ZV) : Option ZL := if k < ls.length then some ((zclr ls k).set k (some v)) else none
def zset2 (ls : ZL) (k : Nat) (v : ZV) : Option ZL := if k + 1 < ls.length then some (((zclr ls k).set k (some v)).set (k + 1) none) else none
def zget (ls : ZL) (k : Nat) : Option ZV := match ls[k]? with
  | some (some v) => some v
  | _ => none
def zldi (k n pc : Nat) (ls : ZL) (st : List ZV) (S : ZS) (C : ZC) : Option ZO := match zget ls k with
  | some (.inl x) => some (pc + n, ls, .inl x :: st, S, C)
  | _ => none
def zldl (k n pc : Nat) (ls : ZL) (st : List ZV) (S : ZS) (C : ZC) : Option ZO := match zget ls k with
  | some (.inr (.inl x)) => some (pc + n, ls, .inr (.inl x) :: st, S, C)
  | _ => none
def zlda (k n pc : Nat) (ls : ZL) (st : List ZV) (S : ZS) (C : ZC) : Option ZO := match zget ls k with
  | some (.inr (.inr (some a))) => some (pc + n, ls, .inr (.inr (some a)) :: st, S, C)
  | _ => none
def zsti (k n pc : Nat) (ls : ZL) (st : List ZV) (S : ZS) (C : ZC) : Option ZO := match st with
  | .inl x :: r => (zset ls k (.inl x)).map fun l => (pc + n, l, r, S, C)
  | _ => none
def zstl (k n pc : Nat) (ls : ZL) (st : List ZV) (S : ZS) (C : ZC) : Option ZO := match st with
  | .inr (.inl x) :: r => (zset2 ls k (.inr (.inl x))).map fun l => (pc + n, l, r, S, C)
  | _ => none
def zsta (k n pc : Nat) (ls : ZL) (st : List ZV) (S : ZS) (C : ZC) : Option ZO := match st with
  | .inr (.inr (some a)) :: r => (zset ls k (.inr (.inr (some a)))).map fun l => (pc + n, l, r, S, C)
  | _ => none
def zinc (k : Nat) (n : Int) (pc : Nat) (ls : ZL) (st : List ZV) (S : ZS) (C : ZC) : Option ZO := match zget ls k with
  | some (.inl x) => (zset ls k (.inl (zb (· + ·) x n))).map fun l => (pc + 3, l, st, S, C)
  | _ => none
def zo2 (g : Int32 → Int32 → Int32) (pc : Nat) (ls : ZL) (st : List ZV) (S : ZS) (C : ZC) : Option ZO := match st with
  | .inl b :: .inl a :: r => some (pc + 1, ls, .inl (zb g a b) :: r, S, C)
  | _ => none
def zo2d (g : Int32 → Int32 → Int32) (pc : Nat) (ls : ZL) (st : List ZV) (S : ZS) (C : ZC) : Option ZO := match st with
  | .inl b :: .inl a :: r => if b = 0 then none else some (pc + 1, ls, .inl (zb g a b) :: r, S, C)
  | _ => none
def zo1 (g : Int32 → Int32) (pc : Nat) (ls : ZL) (st : List ZV) (S : ZS) (C : ZC) : Option ZO := match st with
  | .inl a :: r => some (pc + 1, ls, .inl (zu g a) :: r, S, C)
  | _ => none
def zlb (g : Int64 → Int64 → Int64) (a b : Int) : Int := (g (Int64.ofInt a) (Int64.ofInt b)).toInt
def zo2l (g : Int64 → Int64 → Int64) (pc : Nat) (ls : ZL) (st : List ZV) (S : ZS) (C : ZC) : Option ZO := match st with
  | .inr (.inl b) :: .inr (.inl a) :: r => some (pc + 1, ls, .inr (.inl (zlb g a b)) :: r, S, C)
  | _ => none
def zi2l (pc : Nat) (ls : ZL) (st : List ZV) (S : ZS) (C : ZC) : Option ZO := match st with
  | .inl a :: r => some (pc + 1, ls, .inr (.inl a) :: r, S, C)
  | _ => none
def zlcmp (pc : Nat) (ls : ZL) (st : List ZV) (S : ZS) (C : ZC) : Option ZO := match st with
  | .inr (.inl b) :: .inr (.inl a) :: r => some (pc + 1, ls, .inl (if b < a then 1 else if a = b then 0 else -1) :: r, S, C)
  | _ => none
def zdup (pc : Nat) (ls : ZL) (st : List ZV) (S : ZS) (C : ZC) : Option ZO := match st with
  | .inl a :: r => some (pc + 1, ls, .inl a :: .inl a :: r, S, C)
  | .inr (.inr a) :: r => some (pc + 1, ls, .inr (.inr a) :: .inr (.inr a) :: r, S, C)
  | _ => none
def zdup2 (pc : Nat) (ls : ZL) (st : List ZV) (S : ZS) (C : ZC) : Option ZO := match st with
  | .inl a :: .inr (.inr b) :: r => some (pc + 1, ls, .inl a :: .inr (.inr b) :: .inl a :: .inr (.inr b) :: r, S, C)
  | _ => none
def zpop (pc : Nat) (ls : ZL) (st : List ZV) (S : ZS) (C : ZC) : Option ZO := match st with
  | .inl _ :: r => some (pc + 1, ls, r, S, C)
  | _ => none
def zif1 (q : Int → Prop) [DecidablePred q] (tgt pc : Nat) (ls : ZL) (st : List ZV) (S : ZS) (C : ZC) : Option ZO := match st with
  | .inl a :: r => if q a then some (tgt, ls, r, S, C) else some (pc + 3, ls, r, S, C)
  | _ => none
def zif2 (q : Int → Int → Prop) [∀ a b, Decidable (q a b)] (tgt pc : Nat) (ls : ZL) (st : List ZV) (S : ZS) (C : ZC) : Option ZO := match st with
  | .inl b :: .inl a :: r => if q a b then some (tgt, ls, r, S, C) else some (pc + 3, ls, r, S, C)
  | _ => none
def zsw (d lo hi : Int) (offs : Array Int) (pc : Nat) (ls : ZL) (st : List ZV) (S : ZS) (C : ZC) : Option ZO := match st with
  | .inl a :: r => if a < lo ∨ hi < a then (if 0 ≤ (pc : Int) + d then some (((pc : Int) + d).toNat, ls, r, S, C) else none) else match offs[(a - lo).toNat]? with
    | some off => if 0 ≤ (pc : Int) + off then some (((pc : Int) + off).toNat, ls, r, S, C) else none
    | none => none
  | _ => none
def zgetf (x y pc : Nat) (ls : ZL) (st : List ZV) (S : ZS) (C : ZC) : Option ZO := match st with
  | .inr (.inr (some a)) :: r => if a < S.1.1 ∧ S.2.1 a = x then some (pc + 3, ls, (if zRf x y = true then .inr (.inr (S.2.2.2 a y)) else .inl (C a y)) :: r, S, C) else none
  | _ => none
def zputf (x y pc : Nat) (ls : ZL) (st : List ZV) (S : ZS) (C : ZC) : Option ZO := match st with
  | .inl v :: .inr (.inr (some a)) :: r => if a < S.1.1 ∧ S.2.1 a = x ∧ zRf x y = false then some (pc + 3, ls, r, S, zup2 C a y v) else none
  | .inr (.inr (some v)) :: .inr (.inr (some a)) :: r => if a < S.1.1 ∧ S.2.1 a = x ∧ zRf x y = true then some (pc + 3, ls, r, (S.1, S.2.1, S.2.2.1, zup2 S.2.2.2 a y (some v)), C) else none
  | _ => none
def ziald (pc : Nat) (ls : ZL) (st : List ZV) (S : ZS) (C : ZC) : Option ZO := match st with
  | .inl i :: .inr (.inr (some a)) :: r => if a < S.1.1 ∧ (S.2.1 a = 8 ∨ a = 0) ∧ 0 ≤ i ∧ i < S.2.2.1 a then some (pc + 1, ls, .inl (C a i.toNat) :: r, S, C) else none
  | _ => none
def zbald (pc : Nat) (ls : ZL) (st : List ZV) (S : ZS) (C : ZC) : Option ZO := match st with
  | .inl i :: .inr (.inr (some a)) :: r => if a < S.1.1 ∧ S.2.1 a = 9 ∧ 0 ≤ i ∧ i < S.2.2.1 a then some (pc + 1, ls, .inl (C a i.toNat) :: r, S, C) else none
  | _ => none
def zaald (pc : Nat) (ls : ZL) (st : List ZV) (S : ZS) (C : ZC) : Option ZO := match st with
  | .inl i :: .inr (.inr (some a)) :: r => if a < S.1.1 ∧ (S.2.1 a = 10 ∨ S.2.1 a = 11) ∧ 0 ≤ i ∧ i < S.2.2.1 a then some (pc + 1, ls, .inr (.inr (S.2.2.2 a i.toNat)) :: r, S, C) else none
  | _ => none
def ziast (pc : Nat) (ls : ZL) (st : List ZV) (S : ZS) (C : ZC) : Option ZO := match st with
  | .inl v :: .inl i :: .inr (.inr (some a)) :: r => if a < S.1.1 ∧ S.2.1 a = 8 ∧ 0 ≤ i ∧ i < S.2.2.1 a then some (pc + 1, ls, r, S, zup2 C a i.toNat v) else none
  | _ => none
def zbast (pc : Nat) (ls : ZL) (st : List ZV) (S : ZS) (C : ZC) : Option ZO := match st with
  | .inl v :: .inl i :: .inr (.inr (some a)) :: r => if a < S.1.1 ∧ S.2.1 a = 9 ∧ 0 ≤ i ∧ i < S.2.2.1 a ∧ (v = 0 ∨ v = 1) then some (pc + 1, ls, r, S, zup2 C a i.toNat v) else none
  | _ => none
def zaast (pc : Nat) (ls : ZL) (st : List ZV) (S : ZS) (C : ZC) : Option ZO := match st with
  | .inr (.inr (some v)) :: .inl i :: .inr (.inr (some a)) :: r => if a < S.1.1 ∧ S.2.1 a = 10 ∧ 0 ≤ i ∧ i < S.2.2.1 a ∧ v < S.1.1 ∧ S.2.1 v = 4 then some (pc + 1, ls, r, (S.1, S.2.1, S.2.2.1, zup2 S.2.2.2 a i.toNat (some v)), C) else none
  | _ => none
def zalen (pc : Nat) (ls : ZL) (st : List ZV) (S : ZS) (C : ZC) : Option ZO := match st with
  | .inr (.inr (some a)) :: r => if a < S.1.1 ∧ (S.2.1 a = 8 ∨ a = 0) ∧ S.2.2.1 a < 1000000 then some (pc + 1, ls, .inl (S.2.2.1 a) :: r, S, C) else none
  | _ => none
def znew (x pc : Nat) (ls : ZL) (st : List ZV) (S : ZS) (C : ZC) : Option ZO := if x < 8 then some (pc + 3, ls, .inr (.inr (some S.1.1)) :: st, zmk S x 0 (zKd x).2.2, zmkC S C) else none
def znewa (x pc : Nat) (ls : ZL) (st : List ZV) (S : ZS) (C : ZC) : Option ZO := match st with
  | .inl n :: r => if (x = 8 ∨ x = 9) ∧ 0 ≤ n ∧ n < 1000000 then some (pc + 2, ls, .inr (.inr (some S.1.1)) :: r, zmk S x n.toNat n.toNat, zmkC S C) else none
  | _ => none
def zanew (pc : Nat) (ls : ZL) (st : List ZV) (S : ZS) (C : ZC) : Option ZO := match st with
  | .inl n :: r => if 0 ≤ n ∧ n < 1000000 then some (pc + 3, ls, .inr (.inr (some S.1.1)) :: r, zmk S 10 n.toNat n.toNat, zmkC S C) else none
  | _ => none
/-- the outer row of n places at the number a, its inner rows right behind it -/
def zouter (S : ZS) (a n : Nat) : ZS := (S.1, S.2.1, S.2.2.1, zrow S.2.2.2 a (fun i => if i < n then some (a + 1 + i) else none))
def zmulti (pc : Nat) (ls : ZL) (st : List ZV) (S : ZS) (C : ZC) : Option ZO := match st with
  | .inl k :: .inl n :: r => if 0 ≤ n ∧ n < 1000 ∧ 0 ≤ k ∧ k < 1000 then some (pc + 4, ls, .inr (.inr (some S.1.1)) :: r, zouter (zin k.toNat n.toNat (zmk S 11 n.toNat n.toNat) (zmkC S C)).1 S.1.1 n.toNat, (zin k.toNat n.toNat (zmk S 11 n.toNat n.toNat) (zmkC S C)).2) else none
  | _ => none
/-- one instruction that is no call and no return -/
def zst (ins : Instr) (x y : Nat) (z : Int) (pc : Nat) (ls : ZL) (st : List ZV) (S : ZS) (C : ZC) : Option ZO := match ins with
  | .iconst _ => some (pc + 1, ls, .inl z :: st, S, C)
  | .bipush _ => some (pc + 2, ls, .inl z :: st, S, C)
  | .sipush _ => some (pc + 3, ls, .inl z :: st, S, C)
  | .ldc _ => some (pc + 2, ls, .inl z :: st, S, C)
  | .ldc_w _ => some (pc + 3, ls, .inl z :: st, S, C)
  | .ldc2_w _ => some (pc + 3, ls, .inr (.inl z) :: st, S, C)
  | .iload_n k => zldi k.val 1 pc ls st S C
  | .iload k => zldi k 2 pc ls st S C
  | .lload_n k => zldl k.val 1 pc ls st S C
  | .lload k => zldl k 2 pc ls st S C
  | .aload_n k => zlda k.val 1 pc ls st S C
  | .aload k => zlda k 2 pc ls st S C
  | .istore_n k => zsti k.val 1 pc ls st S C
  | .istore k => zsti k 2 pc ls st S C
  | .lstore_n k => zstl k.val 1 pc ls st S C
  | .lstore k => zstl k 2 pc ls st S C
  | .astore_n k => zsta k.val 1 pc ls st S C
  | .astore k => zsta k 2 pc ls st S C
  | .iinc k n => zinc k n pc ls st S C
  | .iadd => zo2 (· + ·) pc ls st S C
  | .isub => zo2 (· - ·) pc ls st S C
  | .imul => zo2 (· * ·) pc ls st S C
  | .iand => zo2 (· &&& ·) pc ls st S C
  | .ior => zo2 (· ||| ·) pc ls st S C
  | .ixor => zo2 (· ^^^ ·) pc ls st S C
  | .ishl => zo2 (fun a b => a <<< (b &&& 31)) pc ls st S C
  | .ishr => zo2 (fun a b => a >>> (b &&& 31)) pc ls st S C
  | .iushr => zo2 (fun a b => (a.toUInt32 >>> (b.toUInt32 &&& Int32.toUInt32 31)).toInt32) pc ls st S C
  | .idiv => zo2d (· / ·) pc ls st S C
  | .irem => zo2d (fun a b => a - a / b * b) pc ls st S C
  | .i2b => zo1 (fun a => a.toInt8.toInt32) pc ls st S C
  | .i2s => zo1 (fun a => a.toInt16.toInt32) pc ls st S C
  | .i2l => zi2l pc ls st S C
  | .ladd => zo2l (· + ·) pc ls st S C
  | .lmul => zo2l (· * ·) pc ls st S C
  | .lcmp => zlcmp pc ls st S C
  | .dup => zdup pc ls st S C
  | .dup2 => zdup2 pc ls st S C
  | .pop => zpop pc ls st S C
  | .ifCond .eq _ => zif1 (fun a => a = 0) x pc ls st S C
  | .ifCond .ne _ => zif1 (fun a => ¬ a = 0) x pc ls st S C
  | .ifCond .lt _ => zif1 (fun a => a < 0) x pc ls st S C
  | .ifCond .ge _ => zif1 (fun a => 0 ≤ a) x pc ls st S C
  | .ifCond .gt _ => zif1 (fun a => 0 < a) x pc ls st S C
  | .ifCond .le _ => zif1 (fun a => a ≤ 0) x pc ls st S C
  | .if_icmp .eq _ => zif2 (fun a b => a = b) x pc ls st S C
  | .if_icmp .ne _ => zif2 (fun a b => ¬ a = b) x pc ls st S C
  | .if_icmp .lt _ => zif2 (fun a b => a < b) x pc ls st S C
  | .if_icmp .ge _ => zif2 (fun a b => b ≤ a) x pc ls st S C
  | .if_icmp .gt _ => zif2 (fun a b => b < a) x pc ls st S C
  | .if_icmp .le _ => zif2 (fun a b => a ≤ b) x pc ls st S C
  | .goto _ => some (x, ls, st, S, C)
  | .tableswitch d lo hi offs => zsw d lo hi offs pc ls st S C
  | .getfield _ => zgetf x y pc ls st S C
  | .putfield _ => zputf x y pc ls st S C
  | .iaload => ziald pc ls st S C
  | .baload => zbald pc ls st S C
  | .aaload => zaald pc ls st S C
  | .iastore => ziast pc ls st S C
  | .bastore => zbast pc ls st S C
  | .aastore => zaast pc ls st S C
  | .arraylength => zalen pc ls st S C
  | .new _ => znew x pc ls st S C
  | .newarray _ => znewa x pc ls st S C
  | .anewarray _ => zanew pc ls st S C
  | .multianewarray _ _ => zmulti pc ls st S C
  | _ => none
/-- the JDK's min and max (1001, 1002), its native copy of ints, and Object's constructor -/
def znat (ins : Instr) (x pc : Nat) (ls : ZL) (st : List ZV) (S : ZS) (C : ZC) : Option ZO := if x = 1001 then (match ins, st with
    | .invokestatic _, .inl b :: .inl a :: r => if r.length ≤ 4 then some (pc + 3, ls, .inl (if b < a then b else a) :: r, S, C) else none
    | _, _ => none)
  else if x = 1002 then (match ins, st with
    | .invokestatic _, .inl b :: .inl a :: r => if r.length ≤ 4 then some (pc + 3, ls, .inl (if a < b then b else a) :: r, S, C) else none
    | _, _ => none)
  else match ins, st with
  | .invokestatic _, .inl n :: .inl dp :: .inr (.inr (some a)) :: .inl sp :: .inr (.inr (some a0)) :: r =>
    if a < S.1.1 ∧ a0 < S.1.1 ∧ S.2.1 a = 8 ∧ S.2.1 a0 = 8 ∧ 0 ≤ n ∧ 0 ≤ dp ∧ 0 ≤ sp ∧ sp + n ≤ S.2.2.1 a0 ∧ dp + n ≤ S.2.2.1 a ∧ r.length ≤ 4 then some (pc + 3, ls, r, S, zrow C a (zcpy (C a0) (C a) sp.toNat dp.toNat n.toNat)) else none
  | .invokespecial _, .inr (.inr (some _)) :: r => if r.length ≤ 4 then some (pc + 3, ls, r, S, C) else none
  | _, _ => none
/-- what a return takes from the stack -/
def zret (ins : Instr) (bool : Bool) (st : List ZV) : Option (Option ZV) := match ins, st with
  | .ireturn, [.inl v] => if bool = true ∧ ¬ (v = 0 ∨ v = 1) then none else some (some (.inl v))
  | .lreturn, [.inr (.inl v)] => some (some (.inr (.inl v)))
  | .return_, [] => some none
  | _, _ => none
/-- the callee's locals: its arguments (ints and references), then nothing -/
def zent (n : Nat) (as : List ZV) : ZL := as.map some ++ List.replicate (n - as.length) none
def zfetch (M pc : Nat) : Option ZE := (zCode.getD M []).find? (fun e => e.1 == pc)
def zml (M : Nat) : Nat := match zM[M]? with
  | some q => q.2.2.1
  | none => 0
def zbool (M : Nat) : Bool := match zM[M]? with
  | some q => decide (q.2.2.2.1 = some .boolean)
  | none => false
/-- the receiver and the arguments of a call, first to last, and the rest of the stack -/
def zargs (ins : Instr) (y : Nat) (st : List ZV) : Option (List ZV × List ZV) := match ins with
  | .invokestatic _ => if y ≤ st.length then some ((st.take y).reverse, st.drop y) else none
  | .invokevirtual _ => if y + 1 ≤ st.length then some ((st.take (y + 1)).reverse, st.drop (y + 1)) else none
  | .invokespecial _ => if y + 1 ≤ st.length then some ((st.take (y + 1)).reverse, st.drop (y + 1)) else none
  | _ => none
def zcat1 (v : ZV) : Bool := match v with
  | .inr (.inl _) => false
  | _ => true
/-- the receiver is there, and of the class where the method stands -/
def zmkd (M : Nat) : Nat := zMk.getD M 99
def zrecv (ins : Instr) (M : Nat) (as : List ZV) (S : ZS) : Bool := match ins, as with
  | .invokestatic _, _ => true
  | _, .inr (.inr (some a)) :: _ => decide (a < S.1.1 ∧ S.2.1 a = zmkd M ∧ zmkd M < 8)
  | _, _ => false
def zcall (ins : Instr) (M y : Nat) (st : List ZV) (S : ZS) : Option (List ZV × List ZV) := match zargs ins y st with
  | some (as, r) => if as.all zcat1 = true ∧ as.length ≤ zml M ∧ zrecv ins M as S = true ∧ r.length ≤ 4 then some (as, r) else none
  | none => none
/-- THE RUN: n is fuel, d how deep calls may go -/
def zrun : Nat → Nat → Nat → Nat → ZL → List ZV → ZS → ZC → Option (Option ZV × ZS × ZC)
  | 0, _, _, _, _, _, _, _ => none
  | n + 1, d, M, pc, ls, st, S, C => match zfetch M pc with
    | none => none
    | some (_, ins, _, (x, y, z), _) => match zst ins x y z pc ls st S C with
      | some (pc', ls', st', S', C') => zrun n d M pc' ls' st' S' C'
      | none => match zret ins (zbool M) st with
        | some v => some (v, S, C)
        | none => match d with
          | 0 => none
          | d + 1 => if 1000 ≤ x then (match znat ins x pc ls st S C with
              | some (pc', ls', st', S', C') => zrun n (d + 1) M pc' ls' st' S' C'
              | none => none)
            else match zcall ins x y st S with
              | none => none
              | some (as, r) => match zrun n d x 0 (zent (zml x) as) [] S C with
                | none => none
                | some (v, S', C') => zrun n (d + 1) M (pc + 3) ls (v.toList ++ r) S' C'
