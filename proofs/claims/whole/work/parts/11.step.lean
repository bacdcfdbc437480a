/-- a plain instruction: new locals, new stack (the next instruction follows) -/
def stepL (ins : Instr) (ns : List Nat) (cst : PV) (ls : List (Option PV)) (st : List PV) (M : Mem) : Option (List (Option PV) × List PV) :=
  match ins with
  | .iload i => match lget ls i with
    | some (.inl x) => some (ls, pI x :: st)
    | _ => none
  | .iload_n i => match lget ls i.val with
    | some (.inl x) => some (ls, pI x :: st)
    | _ => none
  | .lload i => match lget ls i with
    | some (.inr (.inl x)) => some (ls, pJ x :: st)
    | _ => none
  | .lload_n i => match lget ls i.val with
    | some (.inr (.inl x)) => some (ls, pJ x :: st)
    | _ => none
  | .aload i => match lget ls i with
    | some (.inr (.inr (.inl x))) => some (ls, pR x :: st)
    | _ => none
  | .aload_n i => match lget ls i.val with
    | some (.inr (.inr (.inl x))) => some (ls, pR x :: st)
    | _ => none
  | .fload i => match lget ls i with
    | some (.inr (.inr (.inr (.inl x)))) => some (ls, pF x :: st)
    | _ => none
  | .fload_n i => match lget ls i.val with
    | some (.inr (.inr (.inr (.inl x)))) => some (ls, pF x :: st)
    | _ => none
  | .dload i => match lget ls i with
    | some (.inr (.inr (.inr (.inr x)))) => some (ls, pD x :: st)
    | _ => none
  | .dload_n i => match lget ls i.val with
    | some (.inr (.inr (.inr (.inr x)))) => some (ls, pD x :: st)
    | _ => none
  | .istore i => match st with
    | .inl x :: st => nf (lst1 ls i (pI x)) fun ls => some (ls, st)
    | _ => none
  | .istore_n i => match st with
    | .inl x :: st => nf (lst1 ls i.val (pI x)) fun ls => some (ls, st)
    | _ => none
  | .astore i => match st with
    | .inr (.inr (.inl x)) :: st => nf (lst1 ls i (pR x)) fun ls => some (ls, st)
    | _ => none
  | .astore_n i => match st with
    | .inr (.inr (.inl x)) :: st => nf (lst1 ls i.val (pR x)) fun ls => some (ls, st)
    | _ => none
  | .lstore i => match st with
    | .inr (.inl x) :: st => nf (lst2 ls i (pJ x)) fun ls => some (ls, st)
    | _ => none
  | .lstore_n i => match st with
    | .inr (.inl x) :: st => nf (lst2 ls i.val (pJ x)) fun ls => some (ls, st)
    | _ => none
  | .dstore i => match st with
    | .inr (.inr (.inr (.inr x))) :: st => nf (lst2 ls i (pD x)) fun ls => some (ls, st)
    | _ => none
  | .dstore_n i => match st with
    | .inr (.inr (.inr (.inr x))) :: st => nf (lst2 ls i.val (pD x)) fun ls => some (ls, st)
    | _ => none
  | .iinc i _ => match lget ls i, cst with
    | some (.inl x), .inl n => nf (lst1 ls i (pI (x + n))) fun ls => some (ls, st)
    | _, _ => none
  | .iconst _ => some (ls, cst :: st)
  | .bipush _ => some (ls, cst :: st)
  | .sipush _ => some (ls, cst :: st)
  | .lconst _ => some (ls, cst :: st)
  | .ldc_w _ => some (ls, cst :: st)
  | .ldc2_w _ => some (ls, cst :: st)
  | .ldc _ => match ns with
    | [] => some (ls, cst :: st)
    | j :: _ => some (ls, pR (sR M j) :: st)
  | .aconst_null => some (ls, pR none :: st)
  | .iadd => match st with
    | .inl y :: .inl x :: st => some (ls, pI (x + y) :: st)
    | _ => none
  | .isub => match st with
    | .inl y :: .inl x :: st => some (ls, pI (x - y) :: st)
    | _ => none
  | .imul => match st with
    | .inl y :: .inl x :: st => some (ls, pI (x * y) :: st)
    | _ => none
  | .iand => match st with
    | .inl y :: .inl x :: st => some (ls, pI (x &&& y) :: st)
    | _ => none
  | .ior => match st with
    | .inl y :: .inl x :: st => some (ls, pI (x ||| y) :: st)
    | _ => none
  | .ladd => match st with
    | .inr (.inl y) :: .inr (.inl x) :: st => some (ls, pJ (x + y) :: st)
    | _ => none
  | .lsub => match st with
    | .inr (.inl y) :: .inr (.inl x) :: st => some (ls, pJ (x - y) :: st)
    | _ => none
  | .land => match st with
    | .inr (.inl y) :: .inr (.inl x) :: st => some (ls, pJ (x &&& y) :: st)
    | _ => none
  | .lor => match st with
    | .inr (.inl y) :: .inr (.inl x) :: st => some (ls, pJ (x ||| y) :: st)
    | _ => none
  | .ishl => match st with
    | .inl y :: .inl x :: st => some (ls, pI (x <<< (y &&& 31)) :: st)
    | _ => none
  | .ishr => match st with
    | .inl y :: .inl x :: st => some (ls, pI (x >>> (y &&& 31)) :: st)
    | _ => none
  | .iushr => match st with
    | .inl y :: .inl x :: st => some (ls, pI (x.toUInt32 >>> (y.toUInt32 &&& Int32.toUInt32 31)).toInt32 :: st)
    | _ => none
  | .lshl => match st with
    | .inl y :: .inr (.inl x) :: st => some (ls, pJ (x <<< (y.toInt64 &&& 63)) :: st)
    | _ => none
  | .lshr => match st with
    | .inl y :: .inr (.inl x) :: st => some (ls, pJ (x >>> (y.toInt64 &&& 63)) :: st)
    | _ => none
  | .lushr => match st with
    | .inl y :: .inr (.inl x) :: st => some (ls, pJ (x.toUInt64 >>> (y.toInt64.toUInt64 &&& Int64.toUInt64 63)).toInt64 :: st)
    | _ => none
  | .ineg => match st with
    | .inl x :: st => some (ls, pI (-x) :: st)
    | _ => none
  | .lneg => match st with
    | .inr (.inl x) :: st => some (ls, pJ (-x) :: st)
    | _ => none
  | .i2l => match st with
    | .inl x :: st => some (ls, pJ x.toInt64 :: st)
    | _ => none
  | .l2i => match st with
    | .inr (.inl x) :: st => some (ls, pI x.toInt32 :: st)
    | _ => none
  | .i2b => match st with
    | .inl x :: st => some (ls, pI x.toInt8.toInt32 :: st)
    | _ => none
  | .i2s => match st with
    | .inl x :: st => some (ls, pI x.toInt16.toInt32 :: st)
    | _ => none
  | .i2c => match st with
    | .inl x :: st => some (ls, pI (x.toUInt32 % 65536).toInt32 :: st)
    | _ => none
  | .l2d => match st with
    | .inr (.inl x) :: st => some (ls, pD (FP.l2d x) :: st)
    | _ => none
  | .l2f => match st with
    | .inr (.inl x) :: st => some (ls, pF (FP.l2f x) :: st)
    | _ => none
  | .lcmp => match st with
    | .inr (.inl y) :: .inr (.inl x) :: st => some (ls, pI (lg_cmp x y) :: st)
    | _ => none
  | .dcmp op => match st with
    | .inr (.inr (.inr (.inr y))) :: .inr (.inr (.inr (.inr x))) :: st => some (ls, pI (Op.cmpValue (FP.dcmp x y) op) :: st)
    | _ => none
  | .fcmp op => match st with
    | .inr (.inr (.inr (.inl y))) :: .inr (.inr (.inr (.inl x))) :: st => some (ls, pI (Op.cmpValue (FP.fcmp x y) op) :: st)
    | _ => none
  | .pop => match st with
    | v :: st => bq (Nat.beq (wd v) 1) (some (ls, st))
    | _ => none
  | .dup => match st with
    | v :: st => bq (Nat.beq (wd v) 1) (some (ls, v :: v :: st))
    | _ => none
  | .dup_x1 => match st with
    | v :: w :: st => bq (Nat.beq (wd v) 1) (bq (Nat.beq (wd w) 1) (some (ls, v :: w :: v :: st)))
    | _ => none
  | .dup2 => match st with
    | v :: w :: st => bq (Nat.beq (wd v) 1) (bq (Nat.beq (wd w) 1) (some (ls, v :: w :: v :: w :: st)))
    | _ => none
  | .getstatic _ => match ns with
    | j :: _ => some (ls, pR (sR M j) :: st)
    | _ => none
  | _ => none
/-- may this reference be put into this array of references -/
def okSt (M : Mem) (a : Nat) (v : Option Nat) : Prop := match v with
  | none => True
  | some b => (kd M a = 23 ∧ 1 ≤ kd M b ∧ kd M b ≤ 10) ∨ (kd M a = 24 ∧ kd M b = 5)
def okStD (M : Mem) (a : Nat) (v : Option Nat) : Decidable (okSt M a v) := match v with
  | none => isTrue trivial
  | some _ => inferInstanceAs (Decidable (_ ∨ _))
/-- System.arraycopy of longs, of references -/
def cpJ {α : Type} (x : Option Nat) (sp : Int32) (y : Option Nat) (dp n : Int32) (M : Mem) (f : Mem → Option α) : Option α := match x, y with
  | some a, some b => if kd M a = 21 ∧ kd M b = 21 ∧ ¬ sp < 0 ∧ ¬ dp < 0 ∧ ¬ n < 0 ∧ sp.toNatClampNeg + n.toNatClampNeg ≤ ln M a ∧ dp.toNatClampNeg + n.toNatClampNeg ≤ ln M b then
      f (uJ M b (va_cpy (aJ M a) (aJ M b) sp.toNatClampNeg dp.toNatClampNeg n.toNatClampNeg))
    else none
  | _, _ => none
def cpR {α : Type} (x : Option Nat) (sp : Int32) (y : Option Nat) (dp n : Int32) (M : Mem) (f : Mem → Option α) : Option α := match x, y with
  | some a, some b => if kd M a = 23 ∧ kd M b = 23 ∧ ¬ sp < 0 ∧ ¬ dp < 0 ∧ ¬ n < 0 ∧ sp.toNatClampNeg + n.toNatClampNeg ≤ ln M a ∧ dp.toNatClampNeg + n.toNatClampNeg ≤ ln M b then
      f (uR M b (va_cpy (aR M a) (aR M b) sp.toNatClampNeg dp.toNatClampNeg n.toNatClampNeg))
    else none
  | _, _ => none
/-- a clone of a row of longs -/
def cnJ {α : Type} (x : Option Nat) (M : Mem) (f : Nat → Mem → Option α) : Option α := match x with
  | some a => if kd M a = 21 then f (mT M) (uJ (nA M 21 (ln M a)) (mT M) (aJ M a)) else none
  | none => none
/-- what goes on behind a call, by what it answers -/
def clK (rk : Nat) (o : Option Rt) (pc : Nat) (ls : List (Option PV)) (st : List PV) (k : Kt) : Option Rt := match rk with
  | 0 => clV o fun M => k pc ls st M
  | 1 => clI o fun x M => k pc ls (pI x :: st) M
  | 2 => clJ o fun x M => k pc ls (pJ x :: st) M
  | _ => clR o fun x M => k pc ls (pR x :: st) M
/-- calls: numbers z (method), na (arguments), rk (0 nothing, 1 int, 2 long, 3 reference), mx (locals), rc (the receiver's kind; 100: none); 9000 and on: the machine's own -/
def invK (C : Nat → Nat → List PV → Mem → Option Rt) (k : Kt) (pc len : Nat) (ns : List Nat) (ls : List (Option PV)) (st : List PV) (M : Mem) : Option Rt :=
  match ns with
  | [z, na, rk, mx, 100] => match popN na st [] with
    | some (as, st) => bq (Nat.ble (wds st) 8) (bq (Nat.ble (wds as) mx) (clK rk (C z mx as M) (pc + len) ls st k))
    | none => none
  | [z, na, rk, mx, rc] => match popN na st [] with
    | some (.inr (.inr (.inl x)) :: as, st) => bq (Nat.ble (wds st) 8) (bq (Nat.ble (1 + wds as) mx) (rd x rc M fun a => clK rk (C z mx (pR (some a) :: as) M) (pc + len) ls st k))
    | _ => none
  | [9000] => match st with
    | .inr (.inr (.inl x)) :: st => bq (Nat.ble (wds st) 8) (nn x (k (pc + len) ls st M))
    | _ => none
  | [9001] => match st with
    | .inl n :: .inl dp :: .inr (.inr (.inl y)) :: .inl sp :: .inr (.inr (.inl x)) :: st => bq (Nat.ble (wds st) 8) (cpJ x sp y dp n M fun M => k (pc + len) ls st M)
    | _ => none
  | [9002] => match st with
    | .inl n :: .inl dp :: .inr (.inr (.inl y)) :: .inl sp :: .inr (.inr (.inl x)) :: st => bq (Nat.ble (wds st) 8) (cpR x sp y dp n M fun M => k (pc + len) ls st M)
    | _ => none
  | [9003] => match st with
    | .inr (.inr (.inl x)) :: st => bq (Nat.ble (wds st) 8) (rd x 23 M fun _ => k (pc + len) ls (pR (sR M 5) :: st) M)
    | _ => none
  | [9004] => match st with
    | .inr (.inr (.inl x)) :: st => bq (Nat.ble (wds st) 8) (cnJ x M fun q M => k (pc + len) ls (pR (some q) :: st) M)
    | _ => none
  | [9005] => match st with
    | .inl x :: st => bq (Nat.ble (wds st) 8) (gd (vn_sni2f x = false) (k (pc + len) ls (pF x.toUInt32 :: st) M))
    | _ => none
  | [9006] => match st with
    | .inr (.inl x) :: st => bq (Nat.ble (wds st) 8) (gd (vn_snl2d x = false) (k (pc + len) ls (pD x.toUInt64 :: st) M))
    | _ => none
  | [9007] => match st with
    | .inr (.inr (.inr (.inr x))) :: st => bq (Nat.ble (wds st) 8) (k (pc + len) ls (pJ x.toInt64 :: st) M)
    | _ => none
  | [9008] => match st with
    | .inr (.inr (.inr (.inl x))) :: st => bq (Nat.ble (wds st) 8) (k (pc + len) ls (pI x.toInt32 :: st) M)
    | _ => none
  | _ => none
/-- one instruction: C calls a method (number, locals, arguments), k goes on -/
def stepK (C : Nat → Nat → List PV → Mem → Option Rt) (k : Kt) (ins : Instr) (len : Nat) (ns : List Nat) (cst : PV) (pc : Nat) (ls : List (Option PV)) (st : List PV) (M : Mem) : Option Rt :=
  match ins with
  | .irem => match st with
    | .inl y :: .inl x :: st => gd (¬ y = 0) (k (pc + len) ls (pI (x - x / y * y) :: st) M)
    | _ => none
  | .lrem => match st with
    | .inr (.inl y) :: .inr (.inl x) :: st => gd (¬ y = 0) (k (pc + len) ls (pJ (x - x / y * y) :: st) M)
    | _ => none
  | .f2d => match st with
    | .inr (.inr (.inr (.inl x))) :: st => gd (FP.f2d x &&& 0x7fffffffffffffff ≤ 0x7ff0000000000000) (k (pc + len) ls (pD (FP.f2d x) :: st) M)
    | _ => none
  | .ifCond cd off => match st with
    | .inl x :: st => match cd with
      | .eq => if x = 0 then k (tgt pc off) ls st M else k (pc + len) ls st M
      | .ne => if ¬ x = 0 then k (tgt pc off) ls st M else k (pc + len) ls st M
      | .lt => if x < 0 then k (tgt pc off) ls st M else k (pc + len) ls st M
      | .ge => if 0 ≤ x then k (tgt pc off) ls st M else k (pc + len) ls st M
      | .gt => if 0 < x then k (tgt pc off) ls st M else k (pc + len) ls st M
      | .le => if x ≤ 0 then k (tgt pc off) ls st M else k (pc + len) ls st M
    | _ => none
  | .if_icmp cd off => match st with
    | .inl y :: .inl x :: st => match cd with
      | .eq => if x = y then k (tgt pc off) ls st M else k (pc + len) ls st M
      | .ne => if ¬ x = y then k (tgt pc off) ls st M else k (pc + len) ls st M
      | .lt => if x < y then k (tgt pc off) ls st M else k (pc + len) ls st M
      | .ge => if y ≤ x then k (tgt pc off) ls st M else k (pc + len) ls st M
      | .gt => if y < x then k (tgt pc off) ls st M else k (pc + len) ls st M
      | .le => if x ≤ y then k (tgt pc off) ls st M else k (pc + len) ls st M
    | _ => none
  | .if_acmp cd off => match st with
    | .inr (.inr (.inl y)) :: .inr (.inr (.inl x)) :: st => match cd with
      | .eq => if x = y then k (tgt pc off) ls st M else k (pc + len) ls st M
      | .ne => if x = y then k (pc + len) ls st M else k (tgt pc off) ls st M
    | _ => none
  | .ifnull off => match st with
    | .inr (.inr (.inl x)) :: st => if x = none then k (tgt pc off) ls st M else k (pc + len) ls st M
    | _ => none
  | .ifnonnull off => match st with
    | .inr (.inr (.inl x)) :: st => if x = none then k (pc + len) ls st M else k (tgt pc off) ls st M
    | _ => none
  | .goto off => k (tgt pc off) ls st M
  | .tableswitch d lo _ offs => match st with
    | .inl x :: st => swK x pc ls st M k d lo offs.toList
    | _ => none
  | .getfield _ => match ns, st with
    | [c, key, 0], .inr (.inr (.inl x)) :: st => rd x c M fun a => k (pc + len) ls (pI (gI M key a) :: st) M
    | [c, key, 1], .inr (.inr (.inl x)) :: st => rd x c M fun a => k (pc + len) ls (pJ (gJ M key a) :: st) M
    | [c, key, 2], .inr (.inr (.inl x)) :: st => rd x c M fun a => k (pc + len) ls (pR (gR M key a) :: st) M
    | _, _ => none
  | .putfield _ => match ns, st with
    | [c, key, 0], .inl v :: .inr (.inr (.inl x)) :: st => rd x c M fun a => bd (sI M key a v) fun M => k (pc + len) ls st M
    | [c, key, 1], .inr (.inl v) :: .inr (.inr (.inl x)) :: st => rd x c M fun a => bd (sJ M key a v) fun M => k (pc + len) ls st M
    | [c, key, 2], .inr (.inr (.inl v)) :: .inr (.inr (.inl x)) :: st => rd x c M fun a => bd (sF M key a v) fun M => k (pc + len) ls st M
    | [c, key, 3], .inl v :: .inr (.inr (.inl x)) :: st => rd x c M fun a => zo v (bd (sI M key a v) fun M => k (pc + len) ls st M)
    | _, _ => none
  | .new _ => match ns with
    | [c, n] => bq (Nat.ble c 12) <| bd (nO M c n) fun M1 => k (pc + len) ls (pR (some (mT M)) :: st) M1
    | _ => none
  | .newarray _ => match ns, st with
    | [c], .inl n :: st => bq (Nat.ble 20 c) <| bq (Nat.ble c 24) <| gd (¬ n < 0 ∧ n.toNatClampNeg ≤ 60000000) (bd (nA M c n.toNatClampNeg) fun M1 => k (pc + len) ls (pR (some (mT M)) :: st) M1)
    | _, _ => none
  | .anewarray _ => match ns, st with
    | [c], .inl n :: st => bq (Nat.ble 20 c) <| bq (Nat.ble c 24) <| gd (¬ n < 0 ∧ n.toNatClampNeg ≤ 60000000) (bd (nA M c n.toNatClampNeg) fun M1 => k (pc + len) ls (pR (some (mT M)) :: st) M1)
    | _, _ => none
  | .arraylength => match st with
    | .inr (.inr (.inl x)) :: st => al x M fun a => k (pc + len) ls (pI (nI (ln M a)) :: st) M
    | _ => none
  | .iaload => match st with
    | .inl i :: .inr (.inr (.inl x)) :: st => ix 20 30 x i M fun a j => k (pc + len) ls (pI (aI M a j) :: st) M
    | _ => none
  | .laload => match st with
    | .inl i :: .inr (.inr (.inl x)) :: st => ix 21 21 x i M fun a j => k (pc + len) ls (pJ (aJ M a j) :: st) M
    | _ => none
  | .baload => match st with
    | .inl i :: .inr (.inr (.inl x)) :: st => ix 22 22 x i M fun a j => k (pc + len) ls (pI (aI M a j) :: st) M
    | _ => none
  | .aaload => match st with
    | .inl i :: .inr (.inr (.inl x)) :: st => ix 23 24 x i M fun a j => k (pc + len) ls (pR (aR M a j) :: st) M
    | _ => none
  | .iastore => match st with
    | .inl v :: .inl i :: .inr (.inr (.inl x)) :: st => ix 20 20 x i M fun a j => bd (wI M a j v) fun M => k (pc + len) ls st M
    | _ => none
  | .lastore => match st with
    | .inr (.inl v) :: .inl i :: .inr (.inr (.inl x)) :: st => ix 21 21 x i M fun a j => bd (wJ M a j v) fun M => k (pc + len) ls st M
    | _ => none
  | .bastore => match st with
    | .inl v :: .inl i :: .inr (.inr (.inl x)) :: st => ix 22 22 x i M fun a j => zo v (bd (wI M a j v) fun M => k (pc + len) ls st M)
    | _ => none
  | .aastore => match st with
    | .inr (.inr (.inl v)) :: .inl i :: .inr (.inr (.inl x)) :: st => ix 23 24 x i M fun a j => @ite _ (okSt M a v) (okStD M a v) (bd (wR M a j v) fun M => k (pc + len) ls st M) none
    | _ => none
  | .checkcast _ => match ns, st with
    | [c], .inr (.inr (.inl x)) :: st => ck x c M (k (pc + len) ls (pR x :: st) M)
    | _, _ => none
  | .invokevirtual _ => invK C k pc len ns ls st M
  | .invokestatic _ => invK C k pc len ns ls st M
  | .invokespecial _ => invK C k pc len ns ls st M
  | .ireturn => match ns, st with
    | [], [.inl x] => some (some (pI x), M)
    | _ :: _, [.inl x] => zo x (some (some (pI x), M))
    | _, _ => none
  | .lreturn => match st with
    | [.inr (.inl x)] => some (some (pJ x), M)
    | _ => none
  | .areturn => match st with
    | [.inr (.inr (.inl x))] => some (some (pR x), M)
    | _ => none
  | .return_ => match st with
    | [] => some (none, M)
    | _ => none
  | ins => match stepL ins ns cst ls st M with
    | some p => k (pc + len) p.1 p.2 M
    | none => none
