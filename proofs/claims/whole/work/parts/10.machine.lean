/-! THE PURE MACHINE: values, memory (a map a field), one instruction as a step in continuation form -/
abbrev PV : Type := Int32 ⊕ Int64 ⊕ Option Nat ⊕ UInt32 ⊕ UInt64
abbrev pI (x : Int32) : PV := .inl x
abbrev pJ (x : Int64) : PV := .inr (.inl x)
abbrev pR (r : Option Nat) : PV := .inr (.inr (.inl r))
abbrev pF (x : UInt32) : PV := .inr (.inr (.inr (.inl x)))
abbrev pD (x : UInt64) : PV := .inr (.inr (.inr (.inr x)))
def pv : PV → Value
  | .inl x => .int x
  | .inr (.inl x) => .long x
  | .inr (.inr (.inl r)) => va_rf r
  | .inr (.inr (.inr (.inl x))) => .float x
  | .inr (.inr (.inr (.inr x))) => .double x
/-- words that a value takes -/
def wd : PV → Nat
  | .inl _ => 1
  | .inr (.inl _) => 2
  | .inr (.inr (.inl _)) => 1
  | .inr (.inr (.inr (.inl _))) => 1
  | .inr (.inr (.inr (.inr _))) => 2
def wds : List PV → Nat
  | [] => 0
  | v :: t => wd v + wds t
/-- memory: next address, slots made, kind of a cell, fields (by key, address), lengths, contents of arrays, static references -/
abbrev Mem : Type := Nat × Nat × (Nat → Nat) × (Nat → Nat → Int32) × (Nat → Nat → Int64) × (Nat → Nat → Option Nat) × (Nat → Nat) × (Nat → Nat → Int32) × (Nat → Nat → Int64) × (Nat → Nat → Option Nat) × (Nat → Option Nat)
def mT (M : Mem) : Nat := M.1
def mS (M : Mem) : Nat := M.2.1
def kd (M : Mem) : Nat → Nat := M.2.2.1
def gI (M : Mem) : Nat → Nat → Int32 := M.2.2.2.1
def gJ (M : Mem) : Nat → Nat → Int64 := M.2.2.2.2.1
def gR (M : Mem) : Nat → Nat → Option Nat := M.2.2.2.2.2.1
def ln (M : Mem) : Nat → Nat := M.2.2.2.2.2.2.1
def aI (M : Mem) : Nat → Nat → Int32 := M.2.2.2.2.2.2.2.1
def aJ (M : Mem) : Nat → Nat → Int64 := M.2.2.2.2.2.2.2.2.1
def aR (M : Mem) : Nat → Nat → Option Nat := M.2.2.2.2.2.2.2.2.2.1
def sR (M : Mem) : Nat → Option Nat := M.2.2.2.2.2.2.2.2.2.2
def up1 {α : Type} (f : Nat → α) (k : Nat) (v : α) : Nat → α := fun j => if j = k then v else f j
def up2 {α : Type} (f : Nat → Nat → α) (k a : Nat) (v : α) : Nat → Nat → α := fun j b => if j = k ∧ b = a then v else f j b
/-- every key forgotten at one address -/
def clr {α : Type} (f : Nat → Nat → α) (a : Nat) (v : α) : Nat → Nat → α := fun j b => if b = a then v else f j b
def sI (M : Mem) (k a : Nat) (v : Int32) : Mem := (mT M, mS M, kd M, up2 (gI M) k a v, gJ M, gR M, ln M, aI M, aJ M, aR M, sR M)
def sJ (M : Mem) (k a : Nat) (v : Int64) : Mem := (mT M, mS M, kd M, gI M, up2 (gJ M) k a v, gR M, ln M, aI M, aJ M, aR M, sR M)
def sF (M : Mem) (k a : Nat) (v : Option Nat) : Mem := (mT M, mS M, kd M, gI M, gJ M, up2 (gR M) k a v, ln M, aI M, aJ M, aR M, sR M)
def uI (M : Mem) (a : Nat) (f : Nat → Int32) : Mem := (mT M, mS M, kd M, gI M, gJ M, gR M, ln M, up1 (aI M) a f, aJ M, aR M, sR M)
def uJ (M : Mem) (a : Nat) (f : Nat → Int64) : Mem := (mT M, mS M, kd M, gI M, gJ M, gR M, ln M, aI M, up1 (aJ M) a f, aR M, sR M)
def uR (M : Mem) (a : Nat) (f : Nat → Option Nat) : Mem := (mT M, mS M, kd M, gI M, gJ M, gR M, ln M, aI M, aJ M, up1 (aR M) a f, sR M)
def wI (M : Mem) (a j : Nat) (v : Int32) : Mem := uI M a (up1 (aI M a) j v)
def wJ (M : Mem) (a j : Nat) (v : Int64) : Mem := uJ M a (up1 (aJ M a) j v)
def wR (M : Mem) (a j : Nat) (v : Option Nat) : Mem := uR M a (up1 (aR M a) j v)
/-- a new object of kind c with n fields -/
def nO (M : Mem) (c n : Nat) : Mem := (mT M + 1, mS M + n, up1 (kd M) (mT M) c, clr (gI M) (mT M) 0, clr (gJ M) (mT M) 0, clr (gR M) (mT M) none, ln M, aI M, aJ M, aR M, sR M)
/-- a new array of kind c with n places -/
def nA (M : Mem) (c n : Nat) : Mem := (mT M + 1, mS M + n, up1 (kd M) (mT M) c, gI M, gJ M, gR M, up1 (ln M) (mT M) n, up1 (aI M) (mT M) (fun _ => 0), up1 (aJ M) (mT M) (fun _ => 0), up1 (aR M) (mT M) (fun _ => none), sR M)
/-- what a run gives: the value that is returned, the memory -/
abbrev Rt : Type := Option PV × Mem
/-- a reference to a cell of kind c is used -/
def rd {α : Type} (r : Option Nat) (c : Nat) (M : Mem) (f : Nat → Option α) : Option α := match r with
  | some a => if kd M a = c then f a else none
  | none => none
/-- place i of an array of kind c or d -/
def ix {α : Type} (c d : Nat) (r : Option Nat) (i : Int32) (M : Mem) (f : Nat → Nat → Option α) : Option α := match r with
  | some a => if (kd M a = c ∨ kd M a = d) ∧ ¬ (i < 0 ∨ ln M a ≤ i.toNatClampNeg) then f a i.toNatClampNeg else none
  | none => none
/-- an array's length -/
def al {α : Type} (r : Option Nat) (M : Mem) (f : Nat → Option α) : Option α := match r with
  | some a => if 20 ≤ kd M a ∧ kd M a < 40 then f a else none
  | none => none
/-- a cast -/
def ck {α : Type} (r : Option Nat) (c : Nat) (M : Mem) (x : Option α) : Option α := match r with
  | some a => if kd M a = c then x else none
  | none => x
/-- not null -/
def nn {α : Type} (r : Option Nat) (x : Option α) : Option α := match r with
  | some _ => x
  | none => none
/-- 0 or 1 alone -/
def zo {α : Type} (x : Int32) (k : Option α) : Option α := if x = 0 ∨ x = 1 then k else none
def bq1 {α : Type} (b : Bool) (x : Option α) : Option α := match b with
  | true => x
  | false => none
def bq2 {α : Type} (b : Bool) (x : Option α) : Option α := bq1 b x
def bq3 {α : Type} (b : Bool) (x : Option α) : Option α := bq2 b x
def bq4 {α : Type} (b : Bool) (x : Option α) : Option α := bq3 b x
/-- (in layers, so that it is laid open ahead of what stands on the other side) -/
def bq {α : Type} (b : Bool) (x : Option α) : Option α := bq4 b x
def gd {α : Type} (p : Prop) [Decidable p] (x : Option α) : Option α := if p then x else none
/-- a new memory gets a name -/
def bd {α : Type} (M : Mem) (f : Mem → Option α) : Option α := f M
def clI {α : Type} (o : Option Rt) (f : Int32 → Mem → Option α) : Option α := match o with
  | some (some (.inl x), M) => f x M
  | _ => none
def clJ {α : Type} (o : Option Rt) (f : Int64 → Mem → Option α) : Option α := match o with
  | some (some (.inr (.inl x)), M) => f x M
  | _ => none
def clR {α : Type} (o : Option Rt) (f : Option Nat → Mem → Option α) : Option α := match o with
  | some (some (.inr (.inr (.inl x))), M) => f x M
  | _ => none
def clV {α : Type} (o : Option Rt) (f : Mem → Option α) : Option α := match o with
  | some (none, M) => f M
  | _ => none
-- locals
def lget : List (Option PV) → Nat → Option PV
  | [], _ => none
  | x :: _, 0 => x
  | _ :: t, n + 1 => lget t n
def lset : List (Option PV) → Nat → Option PV → List (Option PV)
  | [], _, _ => []
  | _ :: t, 0, v => v :: t
  | x :: t, n + 1, v => x :: lset t n v
/-- a value of two words just below i is lost when i is written -/
def lkill (ls : List (Option PV)) : Nat → List (Option PV)
  | 0 => ls
  | n + 1 => match lget ls n with
    | some (.inr (.inl _)) => lset ls n none
    | some (.inr (.inr (.inr (.inr _)))) => lset ls n none
    | _ => ls
def lst1 (ls : List (Option PV)) (i : Nat) (v : PV) : List (Option PV) := lset (lkill ls i) i (some v)
def lst2 (ls : List (Option PV)) (i : Nat) (v : PV) : List (Option PV) := lset (lset (lkill ls i) i (some v)) (i + 1) none
def lay : List PV → List (Option PV)
  | [] => []
  | .inl x :: t => some (.inl x) :: lay t
  | .inr (.inl x) :: t => some (.inr (.inl x)) :: none :: lay t
  | .inr (.inr (.inl x)) :: t => some (.inr (.inr (.inl x))) :: lay t
  | .inr (.inr (.inr (.inl x))) :: t => some (.inr (.inr (.inr (.inl x)))) :: lay t
  | .inr (.inr (.inr (.inr x))) :: t => some (.inr (.inr (.inr (.inr x)))) :: none :: lay t
def pads : Nat → List (Option PV)
  | 0 => []
  | n + 1 => none :: pads n
def fill : List (Option PV) → Nat → List (Option PV)
  | [], n => pads n
  | x :: t, 0 => x :: t
  | x :: t, n + 1 => x :: fill t n
def ent (args : List PV) (n : Nat) : List (Option PV) := fill (lay args) n
/-- the first n of a list, turned round, ahead of acc; and the rest -/
def popN : Nat → List PV → List PV → Option (List PV × List PV)
  | 0, st, acc => some (acc, st)
  | _ + 1, [], _ => none
  | n + 1, v :: st, acc => popN n st (v :: acc)
/-- a row of code: instruction, length, numbers, a constant, locals that are dead here -/
abbrev Ent : Type := Instr × Nat × List Nat × PV × List Nat
/-- a program: by method and pc -/
abbrev Prg : Type := Nat → Nat → Option Ent
def clrs : List Nat → List (Option PV) → List (Option PV)
  | [], ls => ls
  | i :: t, ls => clrs t (lset ls i none)
/-- the same list, its places laid bare first -/
def nf {α : Type} : List (Option PV) → (List (Option PV) → α) → α
  | [], f => f []
  | x :: t, f => nf t fun t => f (x :: t)
theorem nf_eq {α : Type} : ∀ (L : List (Option PV)) (f : List (Option PV) → α), nf L f = f L
  | [], _ => rfl
  | x :: t, f => nf_eq t fun t => f (x :: t)
def cmk {α : Type} (ms : List Nat) (ls : List (Option PV)) (f : List (Option PV) → α) : α := match ms with
  | [] => f ls
  | i :: t => nf (clrs (i :: t) ls) f
theorem cmk_eq {α : Type} (ms : List Nat) (ls : List (Option PV)) (f : List (Option PV) → α) : cmk ms ls f = f (clrs ms ls) := by
  cases ms with
  | nil => rfl
  | cons i t => exact nf_eq _ _
abbrev Kt : Type := Nat → List (Option PV) → List PV → Mem → Option Rt
def tgt (pc : Nat) (off : Int) : Nat := ((pc : Int) + off).toNat
def swK (x : Int32) (pc : Nat) (ls : List (Option PV)) (st : List PV) (M : Mem) (k : Kt) (d : Int) : Int → List Int → Option Rt
  | _, [] => k (tgt pc d) ls st M
  | lo, o :: t => if x = Int32.ofInt lo then k (tgt pc o) ls st M else swK x pc ls st M k d (lo + 1) t
