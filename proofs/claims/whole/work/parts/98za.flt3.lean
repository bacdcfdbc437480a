/-! FLOATS: whole numbers, against the machine's own -/
theorem enc_int {f : FP.Core.Fmt} {fr bias A : Nat} {s : Bool} (hg : FP.Core.Good f) (hp : f.p = fr + 1) (he : f.emax = bias) (hx : f.exps = 2 * bias + 2) (hb : 64 ≤ bias) (h0 : 0 < A) (h63 : A.log2 < 64) : FP.Core.encode f (FP.Core.round f (.fin s A 0)) = (s.toNat * f.exps + (bias + A.log2)) * 2 ^ fr + leadN A fr - 2 ^ fr := by
  have l1 : 2 ^ A.log2 ≤ A := Nat.log2_self_le (by omega)
  have l2 : A < 2 ^ (A.log2 + 1) := Nat.lt_log2_self
  have lb := leadN_b (fr := fr) h0
  have ht : f.tails = 2 ^ fr := by unfold FP.Core.Fmt.tails; rw [hp, Nat.add_sub_cancel]
  have hqm : f.qmin = 1 - (bias : Int) - (fr : Int) := by unfold FP.Core.Fmt.qmin; rw [he, hp]; omega
  have hqx : f.qmax = (bias : Int) - (fr : Int) := by unfold FP.Core.Fmt.qmax; rw [he, hp]; omega
  have hq : FP.Core.quantum f A 1 0 = (A.log2 : Int) - (fr : Int) := by
    refine FP.Core.quantum_eq h0 (by decide) (by rw [hqm]; omega) ?_ (Or.inr ?_)
    · rw [hp, show (A.log2 : Int) - (fr : Int) - 0 + ((fr + 1 : Nat) : Int) = ((A.log2 + 1 : Nat) : Int) - (0 : Nat) by omega, FP.Core.below_iff, Nat.pow_zero, Nat.mul_one, Nat.one_mul]
      exact l2
    · rw [hp, show (A.log2 : Int) - (fr : Int) - 0 + (((fr + 1 : Nat) : Int) - 1) = ((A.log2 : Nat) : Int) - (0 : Nat) by omega, FP.Core.below_iff, Nat.pow_zero, Nat.mul_one, Nat.one_mul]
      omega
  have hr : FP.Core.round f (.fin s A 0) = FP.Core.settle f s (leadN A fr) ((A.log2 : Int) - (fr : Int)) := by
    show FP.Core.roundRatio f s A 1 0 = _
    unfold FP.Core.roundRatio
    rw [if_neg (by omega), hq]
    unfold FP.Core.roundAt FP.Core.unitsNum FP.Core.unitsDen leadN
    rw [show (0 - ((A.log2 : Int) - (fr : Int))).toNat = fr - A.log2 by omega, show ((A.log2 : Int) - (fr : Int) - 0).toNat = A.log2 - fr by omega, Nat.one_mul]
  have hpp : 2 ^ f.p = 2 * 2 ^ fr := by rw [hp, Nat.pow_succ, Nat.mul_comm]
  have p0 : 0 < 2 ^ fr := Nat.two_pow_pos _
  rw [hr]
  unfold FP.Core.settle FP.Core.bound
  by_cases c : leadN A fr < 2 ^ f.p
  · rw [if_pos c, if_pos (by rw [hqx]; omega)]
    show (if leadN A fr < f.tails then FP.Core.assemble f s 0 (leadN A fr) else FP.Core.assemble f s (((A.log2 : Int) - (fr : Int) - f.qmin).toNat + 1) (leadN A fr - f.tails)) = _
    rw [if_neg (by rw [ht]; omega)]
    unfold FP.Core.assemble
    rw [ht, hqm, show ((A.log2 : Int) - (fr : Int) - (1 - (bias : Int) - (fr : Int))).toNat + 1 = bias + A.log2 by omega]
    generalize (s.toNat * f.exps + (bias + A.log2)) * 2 ^ fr = X
    omega
  · have e : leadN A fr = 2 * 2 ^ fr := by rw [hpp] at c; omega
    rw [if_neg c, if_pos (by rw [hqx]; omega)]
    show (if f.tails < f.tails then FP.Core.assemble f s 0 f.tails else FP.Core.assemble f s (((A.log2 : Int) - (fr : Int) + 1 - f.qmin).toNat + 1) (f.tails - f.tails)) = _
    rw [if_neg (by omega)]
    unfold FP.Core.assemble
    rw [ht, hqm, show ((A.log2 : Int) - (fr : Int) + 1 - (1 - (bias : Int) - (fr : Int))).toNat + 1 = bias + A.log2 + 1 by omega, e, Nat.sub_self, Nat.add_zero]
    rw [show s.toNat * f.exps + (bias + A.log2 + 1) = s.toNat * f.exps + (bias + A.log2) + 1 by omega, Nat.add_mul, Nat.one_mul]
    generalize (s.toNat * f.exps + (bias + A.log2)) * 2 ^ fr = X
    omega
theorem abs63 {w : Int64} {A : Nat} (hA : w.toInt.natAbs = A) (h0 : 0 < A) : A.log2 < 64 := by
  have hi := N64_int w
  have hlt := N64_lt w
  have hA63 : A ≤ 9223372036854775808 := by
    rw [← hA, hi]
    split <;> omega
  exact (Nat.log2_lt (by omega)).mpr (by omega)
theorem or_top {X k : Nat} (h : X < 2 ^ k) : X ||| 2 ^ k = 2 ^ k + X := by
  rw [Nat.or_comm]
  have := Nat.two_pow_add_eq_or_of_lt h 1
  rw [Nat.mul_one] at this
  exact this.symm
theorem ofInt_eq {i : Int} {A : Nat} (h : i.natAbs = A) : FP.Core.ofInt i = .fin (decide (i < 0)) A 0 := by
  unfold FP.Core.ofInt
  rw [h]
theorem l2d_N {w : Int64} {A : Nat} (hA : w.toInt.natAbs = A) (h0 : 0 < A) : (FP.l2d w).toNat = (decide (w.toInt < 0)).toNat * 9223372036854775808 + ((1023 + A.log2) * 4503599627370496 + leadN A 52 - 4503599627370496) ∧ (1023 + A.log2) * 4503599627370496 + leadN A 52 - 4503599627370496 < 9223372036854775808 := by
  have h63 := abs63 hA h0
  have lb := leadN_b (fr := 52) h0
  have b52 : (2 : Nat) ^ 52 = 4503599627370496 := by decide
  rw [b52] at lb
  have bd : (1023 + A.log2) * 4503599627370496 + leadN A 52 - 4503599627370496 < 9223372036854775808 := by omega
  refine ⟨?_, bd⟩
  show (UInt64.ofNat (FP.Core.encode FP.Core.b64 (FP.Core.round FP.Core.b64 (FP.Core.ofInt w.toInt)))).toNat = _
  rw [ofInt_eq hA, enc_int (fr := 52) (bias := 1023) FP.Core.good_b64 rfl rfl rfl (by omega) h0 h63, UInt64.toNat_ofNat', b52, show FP.Core.b64.exps = 2048 by decide]
  have hs : (decide (w.toInt < 0)).toNat ≤ 1 := Bool.toNat_le _
  generalize (decide (w.toInt < 0)).toNat = s at hs ⊢
  have e : (s * 2048 + (1023 + A.log2)) * 4503599627370496 + leadN A 52 - 4503599627370496 = s * 9223372036854775808 + ((1023 + A.log2) * 4503599627370496 + leadN A 52 - 4503599627370496) := by omega
  rw [e]
  generalize (1023 + A.log2) * 4503599627370496 + leadN A 52 - 4503599627370496 = X at bd
  exact Nat.mod_eq_of_lt (Nat.lt_of_lt_of_le (Nat.add_lt_add_of_le_of_lt (Nat.mul_le_mul_right _ hs) bd) (by decide))
theorem c_dow (w : Int64) (M : Mem) : ex 37 4 [pJ w] M = some (some (pJ (FP.l2d w).toInt64), M) := by
  have z0 : (0 : Int64).toInt = 0 := rfl
  rw [tX0_doubleOfWhole]
  by_cases hw : w = 0
  · subst hw
    have e38 : ex 38 9 [pJ (0 : Int64), pI 52, pI 1023] M = some (some (pJ 0), M) := by
      rw [tX0_sizeOfWhole]
      exact it_f (not_not_intro (by decide)) rfl
    refine clJ_i e38 (it_t (by decide) ?_)
    rw [show FP.l2d 0 = 0 by decide +kernel]
    rfl
  · have h0 : 0 < w.toInt.natAbs := by
      have : w.toInt ≠ 0 := fun z => hw (Int64.toInt_inj.mp (by rw [z]; rfl))
      omega
    obtain ⟨r, e38, hr⟩ := c_sizeOf (M := M) (fr := 52) (bias := 1023) rfl h0 (Or.inl ⟨rfl, rfl⟩)
    obtain ⟨l1, l2⟩ := l2d_N rfl h0
    rw [show (2 : Nat) ^ 52 = 4503599627370496 by decide] at hr
    have e : N64 ((FP.l2d w).toInt64) = (FP.l2d w).toNat := by show ((FP.l2d w).toInt64).toUInt64.toNat = _; rw [UInt64.toUInt64_toInt64]
    refine clJ_i e38 ?_
    by_cases c : 0 ≤ lg_cmp w (0 : Int64)
    · have c' := cmp_ge0.mp c
      rw [I64_le, z0] at c'
      refine it_t c ?_
      rw [show r = (FP.l2d w).toInt64 from N64_inj (by rw [e, l1, hr, decide_eq_false (by omega)]; simp)]
    · have c2 : ¬ (0 : Int64) ≤ w := fun h => c (cmp_ge0.mpr h)
      rw [I64_le, z0] at c2
      refine it_f c ?_
      rw [show r ||| (-9223372036854775808 : Int64) = (FP.l2d w).toInt64 from N64_inj (by
        rw [N64_or, e, l1, hr, decide_eq_true (by omega), show N64 (-9223372036854775808 : Int64) = 2 ^ 63 by decide, or_top (by rw [show (2 : Nat) ^ 63 = 9223372036854775808 by decide]; exact l2)]
        simp)]
theorem l2f_N {w : Int64} {A : Nat} (hA : w.toInt.natAbs = A) (h0 : 0 < A) : (FP.l2f w).toNat = (decide (w.toInt < 0)).toNat * 2147483648 + ((127 + A.log2) * 8388608 + leadN A 23 - 8388608) ∧ (127 + A.log2) * 8388608 + leadN A 23 - 8388608 < 2139095040 := by
  have h63 := abs63 hA h0
  have lb := leadN_b (fr := 23) h0
  have b23 : (2 : Nat) ^ 23 = 8388608 := by decide
  rw [b23] at lb
  have bd : (127 + A.log2) * 8388608 + leadN A 23 - 8388608 < 2139095040 := by omega
  refine ⟨?_, bd⟩
  show (UInt32.ofNat (FP.Core.encode FP.Core.b32 (FP.Core.round FP.Core.b32 (FP.Core.ofInt w.toInt)))).toNat = _
  rw [ofInt_eq hA, enc_int (fr := 23) (bias := 127) FP.Core.good_b32 rfl rfl rfl (by omega) h0 h63, UInt32.toNat_ofNat', b23, show FP.Core.b32.exps = 256 by decide]
  have hs : (decide (w.toInt < 0)).toNat ≤ 1 := Bool.toNat_le _
  generalize (decide (w.toInt < 0)).toNat = s at hs ⊢
  have e : (s * 256 + (127 + A.log2)) * 8388608 + leadN A 23 - 8388608 = s * 2147483648 + ((127 + A.log2) * 8388608 + leadN A 23 - 8388608) := by omega
  rw [e]
  generalize (127 + A.log2) * 8388608 + leadN A 23 - 8388608 = X at bd
  exact Nat.mod_eq_of_lt (Nat.lt_of_lt_of_le (Nat.add_lt_add_of_le_of_lt (Nat.mul_le_mul_right _ hs) bd) (by decide))
theorem c_fow (w : Int64) (M : Mem) : ex 36 3 [pJ w] M = some (some (pJ (FP.l2f w).toInt32.toInt64), M) := by
  have z0 : (0 : Int64).toInt = 0 := rfl
  rw [tX0_floatOfWhole]
  by_cases hw : w = 0
  · subst hw
    have e38 : ex 38 9 [pJ (0 : Int64), pI 23, pI 127] M = some (some (pJ 0), M) := by
      rw [tX0_sizeOfWhole]
      exact it_f (not_not_intro (by decide)) rfl
    refine clJ_i e38 (it_t (by decide) ?_)
    rw [show FP.l2f 0 = 0 by decide +kernel]
    rfl
  · have h0 : 0 < w.toInt.natAbs := by
      have : w.toInt ≠ 0 := fun z => hw (Int64.toInt_inj.mp (by rw [z]; rfl))
      omega
    obtain ⟨r, e38, hr⟩ := c_sizeOf (M := M) (fr := 23) (bias := 127) rfl h0 (Or.inr ⟨rfl, rfl⟩)
    obtain ⟨l1, l2⟩ := l2f_N rfl h0
    rw [show (2 : Nat) ^ 23 = 8388608 by decide] at hr
    have er : r.toInt32.toUInt32.toNat = (127 + w.toInt.natAbs.log2) * 8388608 + leadN w.toInt.natAbs 23 - 8388608 := by
      rw [i64_i32]
      show N64 r % 4294967296 = _
      rw [hr, Nat.mod_eq_of_lt (by omega)]
    have u : ∀ (a : Int32) (b : UInt32), a.toUInt32.toNat = b.toNat → a = b.toInt32 := fun a b h => by
      apply Int32.toBitVec_inj.mp
      exact BitVec.eq_of_toNat_eq h
    refine clJ_i e38 ?_
    by_cases c : 0 ≤ lg_cmp w (0 : Int64)
    · have c' := cmp_ge0.mp c
      rw [I64_le, z0] at c'
      refine it_t c ?_
      rw [show r.toInt32 = (FP.l2f w).toInt32 from u _ _ (by rw [l1, er, decide_eq_false (by omega)]; simp)]
    · have c2 : ¬ (0 : Int64) ≤ w := fun h => c (cmp_ge0.mpr h)
      rw [I64_le, z0] at c2
      refine it_f c ?_
      rw [show r.toInt32 ||| (-2147483648) = (FP.l2f w).toInt32 from u _ _ (by
        rw [Int32.toUInt32_or, UInt32.toNat_or, l1, er, decide_eq_true (by omega), show (Int32.toUInt32 (-2147483648)).toNat = 2 ^ 31 by decide, or_top (by rw [show (2 : Nat) ^ 31 = 2147483648 by decide]; omega)]
        simp)]
