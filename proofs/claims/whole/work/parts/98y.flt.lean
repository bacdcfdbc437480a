/-! FLOATS: leading zeros -/
theorem lg_div {n : Nat} : ∀ k, 2 ^ k ≤ n → n.log2 = (n / 2 ^ k).log2 + k := by
  intro k
  induction k with
  | zero => intro _; rw [Nat.pow_zero, Nat.div_one, Nat.add_zero]
  | succ k ih =>
    intro h
    have hk : 2 ^ k ≤ n := Nat.le_trans (Nat.pow_le_pow_right (by omega) (by omega)) h
    rw [ih hk, Nat.pow_succ, ← Nat.div_div_eq_div_mul]
    have h2 : 2 ≤ n / 2 ^ k := by
      rw [Nat.le_div_iff_mul_le (Nat.two_pow_pos k)]
      rw [Nat.pow_succ] at h
      omega
    rw [Nat.log2_def (n / 2 ^ k), if_pos h2]
    omega
theorem nI_u32 {n : Nat} (h : n < 4294967296) : (nI n).toUInt32.toNat = n := by
  show (BitVec.ofNat 32 n).toNat = n
  rw [BitVec.toNat_ofNat]
  exact Nat.mod_eq_of_lt h
theorem i32_of {a : Int32} {n : Nat} (h : a.toUInt32.toNat = n) : a = nI n := by
  apply Int32.toBitVec_inj.mp
  apply BitVec.eq_of_toNat_eq
  show a.toUInt32.toNat = (BitVec.ofNat 32 n).toNat
  rw [h, BitVec.toNat_ofNat, Nat.mod_eq_of_lt]
  rw [← h]
  exact a.toUInt32.toNat_lt
theorem shr_nI {n k : Nat} {c : Int32} (hn : n < 4294967296) (hc : (c.toUInt32 &&& Int32.toUInt32 31).toNat = k) (hk : k < 32) : ((nI n).toUInt32 >>> (c.toUInt32 &&& Int32.toUInt32 31)).toInt32 = nI (n / 2 ^ k) := by
  apply i32_of
  rw [UInt32.toUInt32_toInt32, UInt32.toNat_shiftRight, hc, nI_u32 hn, Nat.mod_eq_of_lt hk, Nat.shiftRight_eq_div_pow]
theorem nI_less {a b : Nat} (h : b ≤ a) : nI a + (-(nI b)) = nI (a - b) := by rw [← Int32.sub_eq_add_neg, nI_sub h]
theorem nI_nl0 {a b : Nat} (h : b ≤ a) (ha : a < 2147483648) : ¬ nI a < nI b := by
  rw [I32_lt, nI_toInt ha, nI_toInt (by omega)]
  omega
theorem nlz73 {n c : Nat} {M : Mem} (h0 : 0 < n) (h : n < 4) (hc : 1 ≤ c) : rn PP 4 73 [some (pI (nI n)), some (pI (nI c))] [] M = some (some (pI (nI (c - n.log2))), M) := by
  rw [tJ6_numberOfLeadingZeros_0f7a4_73, shr_nI (k := 1) (by omega) (by decide) (by omega), nI_sub (by omega)]
  have : n / 2 ^ 1 = n.log2 := by
    have : n = 1 ∨ n = 2 ∨ n = 3 := by omega
    rcases this with rfl | rfl | rfl <;> decide
  rw [this]
theorem nlz61 {n c : Nat} {M : Mem} (h0 : 0 < n) (h : n < 16) (hc : 3 ≤ c) : rn PP 4 61 [some (pI (nI n)), some (pI (nI c))] [] M = some (some (pI (nI (c - n.log2))), M) := by
  rw [tJ6_numberOfLeadingZeros_0f7a4_61]
  by_cases q : n < 4
  · exact it_t (nI_lt (b := 4) q (by decide)) (nlz73 h0 q (by omega))
  · refine it_f (nI_nl0 (b := 4) (by omega) (by omega)) ?_
    rw [shr_nI (k := 2) (by omega) (by decide) (by omega), show (-2 : Int32) = -(nI 2) from rfl, nI_less (by omega), nlz73 (by omega) (by omega) (by omega), lg_div (n := n) 2 (by omega), Nat.sub_sub, Nat.add_comm]
theorem nlz48 {n c : Nat} {M : Mem} (h0 : 0 < n) (h : n < 256) (hc : 7 ≤ c) : rn PP 4 48 [some (pI (nI n)), some (pI (nI c))] [] M = some (some (pI (nI (c - n.log2))), M) := by
  rw [tJ6_numberOfLeadingZeros_0f7a4_48]
  by_cases q : n < 16
  · exact it_t (nI_lt (b := 16) q (by decide)) (nlz61 h0 q (by omega))
  · refine it_f (nI_nl0 (b := 16) (by omega) (by omega)) ?_
    rw [shr_nI (k := 4) (by omega) (by decide) (by omega), show (-4 : Int32) = -(nI 4) from rfl, nI_less (by omega), nlz61 (by omega) (by omega) (by omega), lg_div (n := n) 4 (by omega), Nat.sub_sub, Nat.add_comm]
theorem nlz33 {n c : Nat} {M : Mem} (h0 : 0 < n) (h : n < 65536) (hc : 15 ≤ c) : rn PP 4 33 [some (pI (nI n)), some (pI (nI c))] [] M = some (some (pI (nI (c - n.log2))), M) := by
  rw [tJ6_numberOfLeadingZeros_0f7a4_33]
  by_cases q : n < 256
  · exact it_t (nI_lt (b := 256) q (by decide)) (nlz48 h0 q (by omega))
  · refine it_f (nI_nl0 (b := 256) (by omega) (by omega)) ?_
    rw [shr_nI (k := 8) (by omega) (by decide) (by omega), show (-8 : Int32) = -(nI 8) from rfl, nI_less (by omega), nlz48 (by omega) (by omega) (by omega), lg_div (n := n) 8 (by omega), Nat.sub_sub, Nat.add_comm]
theorem c_nlz32 {n : Nat} {M : Mem} (h0 : 0 < n) (h : n < 4294967296) : ex 4 2 [pI (nI n)] M = some (some (pI (nI (31 - n.log2))), M) := by
  rw [tJ6_numberOfLeadingZeros_0f7a4]
  by_cases q : n < 2147483648
  · refine it_t (nI_lt (a := 0) h0 q) ?_
    by_cases q2 : n < 65536
    · exact it_t (nI_lt (b := 65536) q2 (by decide)) (nlz33 (c := 31) h0 q2 (by omega))
    · refine it_f (nI_nl0 (b := 65536) (by omega) (by omega)) ?_
      rw [shr_nI (k := 16) (by omega) (by decide) (by omega), show (31 + (-16) : Int32) = nI 15 from rfl, nlz33 (by omega) (by omega) (by omega), lg_div (n := n) 16 (by omega), Nat.add_comm, ← Nat.sub_sub]
  · have hneg : (nI n).toInt < 0 := by
      show (BitVec.ofNat 32 n).toInt < 0
      rw [BitVec.toInt_eq_toNat_cond, BitVec.toNat_ofNat, Nat.mod_eq_of_lt h, if_neg (by omega)]
      omega
    have z : (0 : Int32).toInt = 0 := rfl
    refine it_f (fun w => ?_) (it_t (fun w => ?_) ?_)
    · rw [I32_lt] at w; omega
    · rw [w] at hneg; omega
    · rw [tJ6_numberOfLeadingZeros_0f7a4_14]
      have : n.log2 = 31 := (Nat.log2_eq_iff (by omega)).mpr ⟨by omega, by omega⟩
      rw [this]
      rfl
theorem i64_i32 (s : Int64) : s.toInt32.toUInt32.toNat = s.toUInt64.toNat % 4294967296 := by
  show (s.toBitVec.signExtend 32).toNat = _
  rw [BitVec.signExtend_eq_setWidth_of_le _ (by omega), BitVec.toNat_setWidth]
  rfl
theorem c_nlz64 {s : Int64} {n : Nat} {M : Mem} (hs : s.toUInt64.toNat = n) (h0 : 0 < n) : ex 5 3 [pJ s] M = some (some (pI (nI (63 - n.log2))), M) := by
  have hn : n < 2 ^ 64 := by rw [← hs]; exact s.toUInt64.toNat_lt
  have hi : ((s.toUInt64 >>> ((32 : Int32).toInt64.toUInt64 &&& Int64.toUInt64 63)).toInt64).toInt32 = nI (n / 4294967296) := by
    apply i32_of
    rw [i64_i32, UInt64.toUInt64_toInt64, UInt64.toNat_shiftRight, hs, show ((32 : Int32).toInt64.toUInt64 &&& Int64.toUInt64 63).toNat % 64 = 32 by decide, Nat.shiftRight_eq_div_pow]
    exact Nat.mod_eq_of_lt (by omega)
  have lo : s.toInt32 = nI (n % 4294967296) := by
    apply i32_of
    rw [i64_i32, hs]
  rw [tJ13_numberOfLeadingZeros_95d88, hi, lo]
  by_cases q : n / 4294967296 = 0
  · refine it_f (not_not_intro (by rw [q]; rfl)) ?_
    rw [Nat.mod_eq_of_lt (show n < 4294967296 by omega)]
    refine clI_i (c_nlz32 h0 (by omega)) ?_
    have : n.log2 < 32 := (Nat.log2_lt (by omega)).mpr (by omega)
    rw [show (32 : Int32) = nI 32 from rfl, nI_add, show 32 + (31 - n.log2) = 63 - n.log2 by omega]
  · refine it_t (fun w => q ?_) (clI_i (c_nlz32 (by omega) (by omega)) ?_)
    · have := congrArg (fun a : Int32 => a.toUInt32.toNat) w
      have e : (nI (n / 4294967296)).toUInt32.toNat = (0 : Int32).toUInt32.toNat := this
      rw [nI_u32 (by omega)] at e
      exact e
    · have e := lg_div (n := n) 32 (by omega)
      rw [show (2 : Nat) ^ 32 = 4294967296 by decide] at e
      rw [show 31 - (n / 4294967296).log2 = 63 - n.log2 by omega]
