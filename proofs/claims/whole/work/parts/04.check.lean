/-! What the lists of part 02 must keep, instruction by instruction; the kernel checks it. -/
def zlk (own : String) (i x y : Nat) (z : Int) : Cond := if z = 1 then .fieldLinkNest own i (zKd x).1 ((zKd x).2.1 y).2.1 ((zKd x).2.1 y).2.2.1 "NewOrBack" else .fieldLink own i (zKd x).1 ((zKd x).2.1 y).2.1 ((zKd x).2.1 y).2.2.1
def zMn (x : Nat) : MethodName := match zM[x]? with
  | some q => q.1
  | none => ⟨"", "", ""⟩
def zmk_ (own : String) (i : Nat) (y : MethodName) (z : Int) : Cond := if z = 1 then .methodLinkNest own i y "NewOrBack" else .methodLink own i y
def zpn (y : MethodName) (n : Nat) : Bool := decide ((parseMethodDescriptor y.desc).map (fun d => d.parameters.length) = some n)
def zlen (ins : Instr) : Nat := match ins with
  | .bipush _ | .ldc _ | .iload _ | .lload _ | .aload _ | .istore _ | .lstore _ | .astore _ | .newarray _ => 2
  | .sipush _ | .ldc_w _ | .ldc2_w _ | .iinc _ _ | .ifCond _ _ | .if_icmp _ _ | .goto _ | .getfield _ | .putfield _ | .new _ | .anewarray _ | .invokevirtual _ | .invokestatic _ | .invokespecial _ => 3
  | .multianewarray _ _ => 4
  | _ => 1
def zin1 (q : ZM) (e : ZE) : Bool := match e with
  | (pc, ins, _, (x, y, z), pl) => match ins with
    | .iconst k => decide (Int32.ofInt k = Int32.ofInt z ∧ z32 z = z)
    | .bipush k => decide ((Int8.ofInt k).toInt32 = Int32.ofInt z ∧ z32 z = z)
    | .sipush k => decide ((Int16.ofInt k).toInt32 = Int32.ofInt z ∧ z32 z = z)
    | .ldc i => decide (lw_tbl[pl]? = some (.constant q.1.cls i (Int32.ofInt z)) ∧ z32 z = z)
    | .ldc_w i => decide (lw_tbl[pl]? = some (.constant q.1.cls i (Int32.ofInt z)) ∧ z32 z = z)
    | .ldc2_w i => decide (lw_tbl[pl]? = some (.constantLong q.1.cls i (Int64.ofInt z)) ∧ z64 z = z)
    | .ifCond _ off => decide ((pc : Int) + off = (x : Int))
    | .if_icmp _ off => decide ((pc : Int) + off = (x : Int))
    | .goto off => decide ((pc : Int) + off = (x : Int))
    | .getfield i => decide (x < 8 ∧ y < (zKd x).2.2 ∧ lw_tbl[pl]? = some (zlk q.1.cls i x y z))
    | .putfield i => decide (x < 8 ∧ y < (zKd x).2.2 ∧ lw_tbl[pl]? = some (zlk q.1.cls i x y z)) && (!zFn x y || decide (q.1.name = "<init>" ∧ z ≠ 1 ∧ (zKd x).1 = q.1.cls))
    | .new i => decide (x < 8 ∧ lw_tbl[pl]? = some (.classLink q.1.cls i (zKd x).1) ∧ lw_tbl[y]? = some (.instantiable (zKd x).1 (zKd x).2.2) ∧ lw_tbl[z.toNat]? = some (.initialized (zKd x).1))
    | .newarray t => decide ((x = 8 ∧ t = .int) ∨ (x = 9 ∧ t = .boolean))
    | .anewarray i => decide (lw_tbl[pl]? = some (.classLink q.1.cls i "NewOrBack$Walk"))
    | .multianewarray i d => decide (d = 2 ∧ lw_tbl[pl]? = some (.classLink q.1.cls i "[[I"))
    | .invokevirtual i => decide (x < zM.length ∧ (zMn x).cls ≠ "java/lang/Object" ∧ lw_tbl[pl]? = some (zmk_ q.1.cls i (zMn x) z)) && zpn (zMn x) y
    | .invokespecial i => if x = 1000 then decide (lw_tbl[pl]? = some (.methodLink q.1.cls i objectInit)) && decide (y = 0) else decide (x < zM.length ∧ (zMn x).name = "<init>" ∧ lw_tbl[pl]? = some (zmk_ q.1.cls i (zMn x) z)) && zpn (zMn x) y
    | .invokestatic i => if x = 1000 then decide (lw_tbl[pl]? = some (.methodLink q.1.cls i arraycopyName)) else if x = 1001 then decide (lw_tbl[pl]? = some (.methodLink q.1.cls i Lib.Math.min.name)) else if x = 1002 then decide (lw_tbl[pl]? = some (.methodLink q.1.cls i Lib.Math.max.name)) else decide (x < zM.length ∧ lw_tbl[pl]? = some (zmk_ q.1.cls i (zMn x) z)) && zpn (zMn x) y
    | _ => true
def zchk (q : ZM) (e : ZE) : Bool := decide (decode q.2.1 e.1 = .ok (e.2.1, e.2.2.1)) && (match e.2.1 with
  | .tableswitch _ _ _ _ => true
  | ins => decide (e.2.2.1 = zlen ins)) && zin1 q e
def zM0 : ZM := (⟨"", "", ""⟩, code, 0, none, 0, 0, 0, 0, 0)
def zckP (M : Nat) : Prop := (zCode.getD M []).all (zchk (zM.getD M zM0)) = true
