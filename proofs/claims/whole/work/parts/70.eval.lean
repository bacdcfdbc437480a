/-! THE PURE PART: runs laid out step by step -/
section EVAL
variable {α : Type} {M : Mem} {r : Option α}
theorem rd_i {g : Option Nat} {a c : Nat} {f : Nat → Option α} (hg : g = some a) (hk : kd M a = c) (k : f a = r) : rd g c M f = r := by
  subst hg
  exact (if_pos hk).trans k
theorem bd_i {f : Mem → Option α} (k : f M = r) : bd M f = r := k
theorem ix_i {g : Option Nat} {a c d n : Nat} {i : Int32} {f : Nat → Nat → Option α} (hg : g = some a) (hk : kd M a = c ∨ kd M a = d) (hi : i = nI n) (hl : n < ln M a) (hb : n < 2147483648) (k : f a n = r) : ix c d g i M f = r := by
  subst hg
  subst hi
  have e : (nI n).toNatClampNeg = n := nI_clamp hb
  have h0 : ¬ nI n < 0 := nI_pos hb
  show (if (kd M a = c ∨ kd M a = d) ∧ ¬ (nI n < 0 ∨ ln M a ≤ (nI n).toNatClampNeg) then f a (nI n).toNatClampNeg else none) = r
  rw [e, if_pos ⟨hk, fun q => by rcases q with q | q; exact h0 q; omega⟩]
  exact k
theorem al_i {g : Option Nat} {a : Nat} {f : Nat → Option α} (hg : g = some a) (hk : 20 ≤ kd M a ∧ kd M a < 40) (k : f a = r) : al g M f = r := by
  subst hg
  exact (if_pos hk).trans k
theorem ck_s {g : Option Nat} {a c : Nat} {x : Option α} (hg : g = some a) (hk : kd M a = c) (k : x = r) : ck g c M x = r := by
  subst hg
  exact (if_pos hk).trans k
theorem ck_n {g : Option Nat} {c : Nat} {x : Option α} (hg : g = none) (k : x = r) : ck g c M x = r := by
  subst hg
  exact k
theorem nn_i {g : Option Nat} {a : Nat} {x : Option α} (hg : g = some a) (k : x = r) : nn g x = r := by
  subst hg
  exact k
theorem zo_i {v : Int32} {x : Option α} (h : v = 0 ∨ v = 1) (k : x = r) : zo v x = r := (if_pos h).trans k
theorem gd_i {p : Prop} {dp : Decidable p} {x : Option α} (h : p) (k : x = r) : gd p x = r := (if_pos h).trans k
theorem it_t {β : Type} {p : Prop} {dp : Decidable p} {x y r : β} (h : p) (k : x = r) : (if p then x else y) = r := (if_pos h).trans k
theorem it_f {β : Type} {p : Prop} {dp : Decidable p} {x y r : β} (h : ¬ p) (k : y = r) : (if p then x else y) = r := (if_neg h).trans k
theorem clV_i {o : Option Rt} {M1 : Mem} {f : Mem → Option α} (h : o = some (none, M1)) (k : f M1 = r) : clV o f = r := by subst h; exact k
theorem clI_i {o : Option Rt} {M1 : Mem} {v : Int32} {f : Int32 → Mem → Option α} (h : o = some (some (pI v), M1)) (k : f v M1 = r) : clI o f = r := by subst h; exact k
theorem clJ_i {o : Option Rt} {M1 : Mem} {v : Int64} {f : Int64 → Mem → Option α} (h : o = some (some (pJ v), M1)) (k : f v M1 = r) : clJ o f = r := by subst h; exact k
theorem clR_i {o : Option Rt} {M1 : Mem} {v : Option Nat} {f : Option Nat → Mem → Option α} (h : o = some (some (pR v), M1)) (k : f v M1 = r) : clR o f = r := by subst h; exact k
theorem st_i {a : Nat} {v : Option Nat} {x : Option α} (h : okSt M a v) (k : x = r) : @ite _ (okSt M a v) (okStD M a v) x none = r := (if_pos h).trans k
end EVAL
-- numbers
theorem nI_in' {e : Int32} {n : Nat} (hn : n < 2147483648) (h0 : ¬ e < 0) (h1 : e < nI n) : ∃ k, k < n ∧ e = nI k := by
  have e1 : 0 ≤ e.toInt := by
    rw [Int32.lt_iff_toInt_lt] at h0
    have : (0 : Int32).toInt = 0 := rfl
    omega
  rw [Int32.lt_iff_toInt_lt, nI_toInt hn] at h1
  refine ⟨e.toInt.toNat, by omega, ?_⟩
  apply Int32.toInt_inj.mp
  rw [nI_toInt (by omega)]
  omega
theorem nI_inj {a b : Nat} (ha : a < 2147483648) (hb : b < 2147483648) (h : nI a = nI b) : a = b := by
  have := congrArg Int32.toInt h
  rw [nI_toInt ha, nI_toInt hb] at this
  omega
theorem nI_mul (a b : Nat) : nI a * nI b = nI (a * b) := (Int32.ofNat_mul a b).symm
theorem nI_sub {a b : Nat} (h : b ≤ a) : nI a - nI b = nI (a - b) := by
  have := nI_add (a - b) b
  rw [show a - b + b = a by omega] at this
  rw [← this]
  exact Int32.add_sub_cancel _ _
theorem I32_le {a b : Int32} : a ≤ b ↔ a.toInt ≤ b.toInt := Int32.le_iff_toInt_le
theorem I32_lt {a b : Int32} : a < b ↔ a.toInt < b.toInt := Int32.lt_iff_toInt_lt
theorem I64_le {a b : Int64} : a ≤ b ↔ a.toInt ≤ b.toInt := Int64.le_iff_toInt_le
theorem I64_lt {a b : Int64} : a < b ↔ a.toInt < b.toInt := Int64.lt_iff_toInt_lt
theorem nI_ge0 (n : Nat) (h : n < 2147483648) : ¬ nI n < 0 := nI_pos h
theorem cmp_eq0 {x y : Int64} : lg_cmp x y = 0 ↔ x = y := by
  unfold lg_cmp
  split
  · rename_i h
    refine ⟨fun q => absurd q (by decide), fun q => ?_⟩
    subst q
    rw [gt_iff_lt, I64_lt] at h
    omega
  · split
    · rename_i h; exact ⟨fun _ => h, fun _ => rfl⟩
    · rename_i h; exact ⟨fun q => absurd q (by decide), fun q => absurd q h⟩
theorem cmp_lt0 {x y : Int64} : lg_cmp x y < 0 ↔ x < y := by
  have h1 := lg_cmp_ge x y
  rw [I32_lt, I64_lt]
  rw [I32_le, I64_le] at h1
  have : (0 : Int32).toInt = 0 := rfl
  omega
theorem cmp_gt0 {x y : Int64} : 0 < lg_cmp x y ↔ y < x := by
  have h2 := cmp_eq0 (x := x) (y := y)
  have h1 := lg_cmp_ge x y
  rw [I32_lt, I64_lt]
  rw [I32_le, I64_le] at h1
  rw [← Int32.toInt_inj, ← Int64.toInt_inj] at h2
  have : (0 : Int32).toInt = 0 := rfl
  omega
theorem cmp_le0 {x y : Int64} : lg_cmp x y ≤ 0 ↔ x ≤ y := by
  have h2 := cmp_gt0 (x := x) (y := y)
  rw [I32_lt, I64_lt] at h2
  rw [I32_le, I64_le]
  omega
theorem cmp_ge0 {x y : Int64} : 0 ≤ lg_cmp x y ↔ y ≤ x := lg_cmp_ge x y
/-- a method's run keeps the pure invariants -/
theorem ex_kp {z mx : Nat} {as : List PV} {M : Mem} {v : Option PV} {M' : Mem} (base : Nat) (h : ex z mx as M = some (v, M')) : Kp2 base M M' := by
  obtain ⟨n, hn⟩ := (rn_iff PP (z, 0, ent as mx, [], M) (v, M')).mp h
  exact rnF_kp base PP n _ _ hn
