def atC (t : ClassFile.ArrayType) : Nat := match t with
  | .int => 1
  | .long => 2
  | .byte => 3
  | .boolean => 4
  | _ => 99
def cdAt (c : List (List (Option (ClassFile.Instr × Nat)))) (pc : Nat) : Option (ClassFile.Instr × Nat) := ((c.getD (pc / 16) []).getD (pc % 16) none)
/-- what the tables must say of an instruction -/
def okI (pc : Nat) (ins : ClassFile.Instr) (len : Nat) : Bool := match ins with
  | .iconst i => decide (-1 ≤ i) && decide (i ≤ 5) && len == 1
  | .bipush i => decide (-128 ≤ i) && decide (i ≤ 127) && len == 2
  | .sipush i => decide (-32768 ≤ i) && decide (i ≤ 32767) && len == 3
  | .ldc _ => len == 2
  | .ldc_w _ => len == 3
  | .ldc2_w _ => len == 3
  | .iload _ => len == 2
  | .lload _ => len == 2
  | .aload _ => len == 2
  | .istore _ => len == 2
  | .lstore _ => len == 2
  | .astore _ => len == 2
  | .iinc _ _ => len == 3
  | .ifCond _ o => decide (0 ≤ (pc : Int) + o) && len == 3
  | .if_icmp _ o => decide (0 ≤ (pc : Int) + o) && len == 3
  | .ifnull o => decide (0 ≤ (pc : Int) + o) && len == 3
  | .ifnonnull o => decide (0 ≤ (pc : Int) + o) && len == 3
  | .goto o => decide (0 ≤ (pc : Int) + o) && len == 3
  | .tableswitch d lo hi offs => decide (0 ≤ (pc : Int) + d) && offs.toList.all (fun o => decide (0 ≤ (pc : Int) + o)) && decide (lo + offs.toList.length = hi + 1) && decide (-2147483648 ≤ lo) && decide (hi ≤ 2147483647)
  | .lookupswitch d ps => decide (0 ≤ (pc : Int) + d) && ps.toList.all (fun o => decide (0 ≤ (pc : Int) + o.2) && decide (-2147483648 ≤ o.1) && decide (o.1 ≤ 2147483647)) && (ps.toList.zip (ps.toList.drop 1)).all (fun (a, next) => a.1 < next.1)
  | .getfield _ => len == 3
  | .getstatic _ => len == 3
  | .putfield _ => len == 3
  | .new _ => len == 3
  | .newarray t => len == 2 && decide (atC t < 5)
  | .anewarray _ => len == 3
  | .invokevirtual _ => len == 3
  | .invokestatic _ => len == 3
  | .invokespecial _ => len == 3
  | _ => len == 1
