/-! WHAT A ROW OF CODE MUST BE for the machine to do as stepK says -/
def brOk (pc : Nat) (off : Int) (len : Nat) : Bool := decide (0 ≤ (pc : Int) + off) && Nat.beq len 3
def okI (y pc : Nat) (ins : Instr) (len : Nat) (ns : List Nat) (cst : PV) : Bool := match ins with
  | .iload _ | .lload _ | .aload _ | .fload _ | .dload _ => Nat.beq len 2
  | .iload_n _ | .lload_n _ | .aload_n _ | .fload_n _ | .dload_n _ => Nat.beq len 1
  | .istore i | .astore i => Nat.beq len 2 && Nat.blt i (mL y)
  | .lstore i | .dstore i => Nat.beq len 2 && Nat.blt (i + 1) (mL y)
  | .istore_n i | .astore_n i => Nat.beq len 1 && Nat.blt i.val (mL y)
  | .lstore_n i | .dstore_n i => Nat.beq len 1 && Nat.blt (i.val + 1) (mL y)
  | .iinc i n => Nat.beq len 3 && Nat.blt i (mL y) && decide (cst = .inl (Int32.ofInt n))
  | .iconst n => Nat.beq len 1 && decide (cst = .inl (Int32.ofInt n))
  | .bipush n => Nat.beq len 2 && decide (cst = .inl (Int8.ofInt n).toInt32)
  | .sipush n => Nat.beq len 3 && decide (cst = .inl (Int16.ofInt n).toInt32)
  | .lconst n => Nat.beq len 1 && decide (cst = .inr (.inl (Int64.ofNat (n : Nat))))
  | .ldc i => Nat.beq len 2 && (match ns with
    | [] => ilk.any fun r => Nat.beq r.1 (mC y) && Nat.beq r.2.1 i && decide (cst = .inl r.2.2.1)
    | j :: _ => Nat.beq j 5 && clk.any fun r => Nat.beq r.1 (mC y) && Nat.beq r.2.1 i && Nat.beq r.2.2.1 23)
  | .ldc_w i => Nat.beq len 3 && ilk.any fun r => Nat.beq r.1 (mC y) && Nat.beq r.2.1 i && decide (cst = .inl r.2.2.1)
  | .ldc2_w i => Nat.beq len 3 && jlk.any fun r => Nat.beq r.1 (mC y) && Nat.beq r.2.1 i && decide (cst = .inr (.inl r.2.2.1))
  | .ifCond _ off | .if_icmp _ off | .if_acmp _ off | .ifnull off | .ifnonnull off | .goto off => brOk pc off len
  | .tableswitch d lo hi offs => decide (0 ≤ (pc : Int) + d) && offs.toList.all (fun o => decide (0 ≤ (pc : Int) + o)) && decide (hi = lo + offs.toList.length - 1) && decide (-2147483648 ≤ lo) && decide (hi < 2147483648)
  | .getfield i => Nat.beq len 3 && (match ns with
    | [c, key, t] => flk.any fun r => Nat.beq r.1 (mC y) && Nat.beq r.2.1 i && Nat.beq r.2.2.1 c && Nat.beq (64 * c + r.2.2.2.1) key && (Nat.beq (fS c r.2.2.2.1) t || (Nat.beq (fS c r.2.2.2.1) 3 && Nat.beq t 0))
    | _ => false)
  | .putfield i => Nat.beq len 3 && (match ns with
    | [c, key, t] => flk.any fun r => Nat.beq r.1 (mC y) && Nat.beq r.2.1 i && Nat.beq r.2.2.1 c && Nat.beq (64 * c + r.2.2.2.1) key && Nat.beq (fS c r.2.2.2.1) t && (!(fT c r.2.2.2.1).2.2.2 || (Nat.beq (mK y) 2 && decide ((fT c r.2.2.2.1).1 = cnm (mC y))))
    | _ => false)
  | .getstatic i => Nat.beq len 3 && (match ns with
    | j :: _ => (slk.any fun r => Nat.beq r.1 (mC y) && Nat.beq r.2.1 i && Nat.beq r.2.2.1 j) || (nlk.any fun r => Nat.beq r.1 (mC y) && Nat.beq r.2.1 i && Nat.beq r.2.2.1 j)
    | _ => false)
  | .new i => Nat.beq len 3 && (match ns with
    | [c, n] => Nat.ble c 12 && Nat.beq n (nfl c) && clk.any fun r => Nat.beq r.1 (mC y) && Nat.beq r.2.1 i && Nat.beq r.2.2.1 c
    | _ => false)
  | .newarray t => Nat.beq len 2 && (match ns with
    | [c] => (Nat.beq c 20 && decide (t = .int)) || (Nat.beq c 21 && decide (t = .long)) || (Nat.beq c 22 && decide (t = .boolean))
    | _ => false)
  | .anewarray i => Nat.beq len 3 && (match ns with
    | [c] => (Nat.beq c 23 && clk.any fun r => Nat.beq r.1 (mC y) && Nat.beq r.2.1 i && Nat.beq r.2.2.1 33) || (Nat.beq c 24 && clk.any fun r => Nat.beq r.1 (mC y) && Nat.beq r.2.1 i && Nat.beq r.2.2.1 5)
    | _ => false)
  | .checkcast i => Nat.beq len 3 && (match ns with
    | [c] => (Nat.ble c 12 || Nat.beq c 21 || Nat.beq c 23) && clk.any fun r => Nat.beq r.1 (mC y) && Nat.beq r.2.1 i && Nat.beq r.2.2.1 c
    | _ => false)
  | .invokevirtual i => Nat.beq len 3 && (match ns with
    | [z, na, rk, mx, rc] => Nat.blt z 231 && Nat.beq (mK z) 1 && Nat.beq (mC z) rc && Nat.ble rc 12 && cbOk y z na rk mx 1 i
    | [z] => (Nat.beq z 9003 || Nat.beq z 9004) && spOk y z i
    | _ => false)
  | .invokestatic i => Nat.beq len 3 && (match ns with
    | [z, na, rk, mx, rc] => Nat.blt z 231 && Nat.beq (mK z) 0 && Nat.beq rc 100 && cbOk y z na rk mx 0 i
    | [z] => (Nat.beq z 9001 || Nat.beq z 9002 || Nat.beq z 9005 || Nat.beq z 9006 || Nat.beq z 9007 || Nat.beq z 9008) && spOk y z i
    | _ => false)
  | .invokespecial i => Nat.beq len 3 && (match ns with
    | [z, na, rk, mx, rc] => Nat.blt z 231 && Nat.beq (mK z) 2 && Nat.ble rc 12 && Nat.beq rk 0 && cbOk y z na rk mx 1 i
    | [z] => Nat.beq z 9000 && spOk y z i
    | _ => false)
  | .ireturn => Nat.beq len 1 && (match ns with
    | [] => decide (mR y = some .int)
    | _ :: _ => decide (mR y = some .boolean))
  | .lreturn => Nat.beq len 1 && decide (mR y = some .long)
  | .areturn => Nat.beq len 1 && (match mR y with
    | some (.object _) => true
    | some (.array _) => true
    | _ => false)
  | .return_ => Nat.beq len 1 && decide (mR y = none)
  | _ => Nat.beq len 1
where
  rkOf (r : Option FieldType) : Nat := match r with
    | none => 0
    | some .long => 2
    | some (.object _) => 3
    | some (.array _) => 3
    | some _ => 1
  cbOk (y z na rk mx th i : Nat) : Bool := Nat.beq mx (mL z) && Nat.beq rk (rkOf (mR z)) && decide ((parseMethodDescriptor (mN z).desc).map (fun d => d.parameters.length + th) = some na) && Nat.ble (rF z + 1) (rF y) && Nat.ble (19 + mx + rL z) (rL y) && mlk.any fun r => Nat.beq r.1 (mC y) && Nat.beq r.2.1 i && Nat.beq r.2.2.1 z
  spOk (y z i : Nat) : Bool := Nat.ble 1 (rF y) && Nat.ble 60 (rL y) && plk.any fun r => Nat.beq r.1 (mC y) && Nat.beq r.2.1 i && Nat.beq r.2.2.1 z
def OkE (y pc : Nat) (e : Ent) : Prop := decode (mB y) pc = .ok (e.1, e.2.1) ∧ okI y pc e.1 e.2.1 e.2.2.1 e.2.2.2.1 = true
