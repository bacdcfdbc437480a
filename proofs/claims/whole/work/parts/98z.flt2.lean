/-! FLOATS: whole numbers -/
abbrev N64 (v : Int64) : Nat := v.toUInt64.toNat
theorem N64_lt (v : Int64) : N64 v < 18446744073709551616 := v.toUInt64.toNat_lt
theorem N64_inj {a b : Int64} (h : N64 a = N64 b) : a = b := by
  apply Int64.toBitVec_inj.mp
  exact BitVec.eq_of_toNat_eq h
theorem N64_int (v : Int64) : v.toInt = if N64 v < 9223372036854775808 then (N64 v : Int) else (N64 v : Int) - 18446744073709551616 := by
  show v.toBitVec.toInt = _
  rw [BitVec.toInt_eq_toNat_cond]
  have e : v.toBitVec.toNat = N64 v := rfl
  rw [e]
  by_cases h : N64 v < 9223372036854775808
  · rw [if_pos h, if_pos (by omega)]
  · rw [if_neg h, if_neg (by omega)]
    rfl
theorem N64_pos {v : Int64} (h : N64 v < 9223372036854775808) : v.toInt = N64 v := by rw [N64_int, if_pos h]
theorem N64_sh1 : ∀ k, k < 63 → N64 ((1 : Int64) <<< ((nI k).toInt64 &&& 63)) = 2 ^ k := by decide +kernel
theorem N64_mk : ∀ k, k < 63 → N64 (((1 : Int64) <<< ((nI k).toInt64 &&& 63)) - 1) = 2 ^ k - 1 := by decide +kernel
theorem N64_and (a b : Int64) : N64 (a &&& b) = N64 a &&& N64 b := by
  show (a &&& b).toUInt64.toNat = _
  rw [Int64.toUInt64_and, UInt64.toNat_and]
theorem N64_or (a b : Int64) : N64 (a ||| b) = N64 a ||| N64 b := by
  show (a ||| b).toUInt64.toNat = _
  rw [Int64.toUInt64_or, UInt64.toNat_or]
theorem N64_add (a b : Int64) : N64 (a + b) = (N64 a + N64 b) % 18446744073709551616 := by
  show (a.toBitVec + b.toBitVec).toNat = _
  rw [BitVec.toNat_add]
  rfl
theorem N64_sub (a b : Int64) : N64 (a - b) = (18446744073709551616 - N64 b + N64 a) % 18446744073709551616 := by
  show (a.toBitVec - b.toBitVec).toNat = _
  rw [BitVec.toNat_sub]
  rfl
theorem N64_shr {s : Int64} {d : Nat} (hd : d < 64) : N64 ((s.toUInt64 >>> ((nI d).toInt64.toUInt64 &&& Int64.toUInt64 63)).toInt64) = N64 s / 2 ^ d := by
  have hk : ∀ d, d < 64 → ((nI d).toInt64.toUInt64 &&& Int64.toUInt64 63).toNat = d := by decide +kernel
  show ((s.toUInt64 >>> ((nI d).toInt64.toUInt64 &&& Int64.toUInt64 63)).toInt64).toUInt64.toNat = _
  rw [UInt64.toUInt64_toInt64, UInt64.toNat_shiftRight, hk d hd, Nat.mod_eq_of_lt hd, Nat.shiftRight_eq_div_pow]
theorem sh_amt : ∀ k, k < 64 → ((nI k).toInt64 &&& 63).toBitVec.smod 64 = BitVec.ofNat 64 k := by decide +kernel
theorem N64_shl {s : Int64} {k : Nat} (hk : k < 64) : N64 (s <<< ((nI k).toInt64 &&& 63)) = N64 s * 2 ^ k % 18446744073709551616 := by
  show (s.toBitVec <<< (((nI k).toInt64 &&& 63).toBitVec.smod 64)).toNat = _
  rw [sh_amt k hk, BitVec.shiftLeft_eq', BitVec.toNat_shiftLeft, BitVec.toNat_ofNat, Nat.shiftLeft_eq, Nat.mod_eq_of_lt (show k < 2 ^ 64 by omega), show (2 : Nat) ^ 64 = 18446744073709551616 by decide]
  rfl
theorem cmp_N {a b : Int64} (ha : N64 a < 9223372036854775808) (hb : N64 b < 9223372036854775808) : (0 < lg_cmp a b ↔ N64 b < N64 a) ∧ (lg_cmp a b = 0 ↔ N64 a = N64 b) := by
  rw [cmp_gt0, cmp_eq0, I64_lt, N64_pos ha, N64_pos hb]
  exact ⟨by omega, fun h => by rw [h], fun h => N64_inj h⟩
theorem c_near {s : Int64} {n d : Nat} {M : Mem} (hs : N64 s = n) (h1 : 1 ≤ d) (h2 : d < 60) : ∃ r, ex 39 10 [pJ s, pI (nI d)] M = some (some (pJ r), M) ∧ N64 r = FP.Core.nearest n (2 ^ d) := by
  have hn : n < 18446744073709551616 := by rw [← hs]; exact N64_lt s
  have pd : 2 ^ d = 2 * 2 ^ (d - 1) := by
    obtain ⟨e, rfl⟩ : ∃ e, d = e + 1 := ⟨d - 1, by omega⟩
    rw [Nat.add_sub_cancel, Nat.pow_succ, Nat.mul_comm]
  have pb : 2 ^ d ≤ 2 ^ 60 := Nat.pow_le_pow_right (by omega) (by omega)
  have p0 : 0 < 2 ^ (d - 1) := Nat.two_pow_pos _
  have rest : N64 (s &&& (((1 : Int64) <<< ((nI d).toInt64 &&& 63)) - (1 : Int64))) = n % 2 ^ d := by rw [N64_and, N64_mk d (by omega), hs, Nat.and_two_pow_sub_one_eq_mod]
  have half : N64 ((1 : Int64) <<< ((nI d - 1).toInt64 &&& 63)) = 2 ^ (d - 1) := by
    have : nI d - 1 = nI (d - 1) := by
      have := nI_pred (d - 1)
      rw [show d - 1 + 1 = d by omega] at this
      exact this
    rw [this, N64_sh1 _ (by omega)]
  have wh : N64 ((s.toUInt64 >>> ((nI d).toInt64.toUInt64 &&& Int64.toUInt64 63)).toInt64) = n / 2 ^ d := by rw [N64_shr (by omega), hs]
  have rl : n % 2 ^ d < 2 ^ d := Nat.mod_lt _ (by omega)
  have b60 : (2 : Nat) ^ 60 = 1152921504606846976 := by decide
  have wl : n / 2 ^ d ≤ 9223372036854775807 := by
    have : n / 2 ^ d ≤ n / 2 := Nat.div_le_div_left (by omega) (by omega)
    omega
  obtain ⟨c1, c2⟩ := cmp_N (a := s &&& (((1 : Int64) <<< ((nI d).toInt64 &&& 63)) - (1 : Int64))) (b := (1 : Int64) <<< ((nI d - 1).toInt64 &&& 63)) (by rw [rest]; omega) (by rw [half]; omega)
  rw [rest, half] at c1 c2
  have odd : N64 ((s.toUInt64 >>> ((nI d).toInt64.toUInt64 &&& Int64.toUInt64 63)).toInt64 &&& (1 : Int64)) = n / 2 ^ d % 2 := by
    rw [N64_and, wh]
    exact Nat.and_two_pow_sub_one_eq_mod _ 1
  have o0 : lg_cmp ((s.toUInt64 >>> ((nI d).toInt64.toUInt64 &&& Int64.toUInt64 63)).toInt64 &&& (1 : Int64)) (0 : Int64) = 0 ↔ n / 2 ^ d % 2 = 0 := by
    rw [(cmp_N (by rw [odd]; omega) (by decide)).2, odd]
    rfl
  have up : N64 ((s.toUInt64 >>> ((nI d).toInt64.toUInt64 &&& Int64.toUInt64 63)).toInt64 + 1) = n / 2 ^ d + 1 := by
    rw [N64_add, wh]
    show (n / 2 ^ d + 1) % 18446744073709551616 = _
    rw [Nat.mod_eq_of_lt (by omega)]
  rw [tX0_nearestEven]
  unfold FP.Core.nearest
  by_cases q1 : 2 ^ (d - 1) < n % 2 ^ d
  · refine ⟨_, it_t (c1.mpr q1) (by rw [tX0_nearestEven_44, tX0_nearestEven_49, if_neg (by decide), tX0_nearestEven_63]), ?_⟩
    rw [up, if_neg (by omega), if_pos (by omega)]
  · by_cases q2 : n % 2 ^ d = 2 ^ (d - 1)
    · by_cases q3 : n / 2 ^ d % 2 = 0
      · refine ⟨_, it_f (fun z => q1 (c1.mp z)) (it_f (not_not_intro (c2.mpr q2)) (it_t (o0.mpr q3) (by rw [tX0_nearestEven_48, tX0_nearestEven_49, if_pos rfl, tX0_nearestEven_63]))), ?_⟩
        rw [wh, if_neg (by omega), if_neg (by omega), q3]
        rfl
      · refine ⟨_, it_f (fun z => q1 (c1.mp z)) (it_f (not_not_intro (c2.mpr q2)) (it_f (fun z => q3 (o0.mp z)) (by rw [tX0_nearestEven_44, tX0_nearestEven_49, if_neg (by decide), tX0_nearestEven_63]))), ?_⟩
        rw [up, if_neg (by omega), if_neg (by omega), show n / 2 ^ d % 2 = 1 by omega]
    · refine ⟨_, it_f (fun z => q1 (c1.mp z)) (it_t (fun z => q2 (c2.mp z)) (by rw [tX0_nearestEven_48, tX0_nearestEven_49, if_pos rfl, tX0_nearestEven_63])), ?_⟩
      rw [wh, if_pos (by omega)]
/-- the leading digits of a whole number -/
def leadN (A fr : Nat) : Nat := FP.Core.nearest (A * 2 ^ (fr - A.log2)) (2 ^ (A.log2 - fr))
theorem leadN_b {A fr : Nat} (h0 : 0 < A) : 2 ^ fr ≤ leadN A fr ∧ leadN A fr ≤ 2 * 2 ^ fr := by
  have l1 : 2 ^ A.log2 ≤ A := Nat.log2_self_le (by omega)
  have l2 : A < 2 ^ (A.log2 + 1) := Nat.lt_log2_self
  unfold leadN
  constructor
  · refine FP.Core.nearest_ge (Nat.two_pow_pos _) ?_
    rw [← Nat.pow_add, show fr + (A.log2 - fr) = A.log2 + (fr - A.log2) by omega, Nat.pow_add]
    exact Nat.mul_le_mul_right _ l1
  · refine FP.Core.nearest_le (Nat.two_pow_pos _) ?_
    rw [Nat.mul_assoc, ← Nat.pow_add, show fr + (A.log2 - fr) = A.log2 + (fr - A.log2) by omega, Nat.pow_add, ← Nat.mul_assoc]
    refine Nat.mul_le_mul_right _ ?_
    rw [Nat.pow_succ] at l2
    omega
theorem c_sizeOf {w : Int64} {A fr bias : Nat} {M : Mem} (hA : w.toInt.natAbs = A) (h0 : 0 < A) (hf : (fr = 52 ∧ bias = 1023) ∨ (fr = 23 ∧ bias = 127)) : ∃ r, ex 38 9 [pJ w, pI (nI fr), pI (nI bias)] M = some (some (pJ r), M) ∧ N64 r = (bias + A.log2) * 2 ^ fr + leadN A fr - 2 ^ fr := by
  have hi := N64_int w
  have hlt := N64_lt w
  have hA63 : A ≤ 9223372036854775808 := by
    rw [← hA, hi]
    split <;> omega
  have key : ∀ s : Int64, N64 s = A → ∃ r, rn PP 38 20 [none, none, some (pI (nI fr)), some (pI (nI bias)), none, none, none, none, none] [pJ s] M = some (some (pJ r), M) ∧ N64 r = (bias + A.log2) * 2 ^ fr + leadN A fr - 2 ^ fr := fun s hs => by
    have tl : A.log2 < 64 := (Nat.log2_lt (by omega)).mpr (by omega)
    have lb := leadN_b (fr := fr) h0
    have e63 : (63 : Int32) - nI (63 - A.log2) = nI A.log2 := by
      rw [show (63 : Int32) = nI 63 from rfl, nI_sub (by omega), show 63 - (63 - A.log2) = A.log2 by omega]
    have fin : ∀ l : Int64, N64 l = leadN A fr → ∃ r, rn PP 38 57 [none, none, some (pI (nI fr)), some (pI (nI bias)), none, none, some (pI (nI A.log2)), none, none] [pJ l] M = some (some (pJ r), M) ∧ N64 r = (bias + A.log2) * 2 ^ fr + leadN A fr - 2 ^ fr := fun l hl => by
      refine ⟨_, tX0_sizeOfWhole_57 _ _ _ _ _, ?_⟩
      have e1 : N64 ((nI bias + nI A.log2).toInt64) = bias + A.log2 := by
        rw [nI_add, nI_l (by omega)]
        show (BitVec.ofNat 64 (bias + A.log2)).toNat = _
        rw [BitVec.toNat_ofNat]
        exact Nat.mod_eq_of_lt (by omega)
      have pf : 2 ^ fr ≤ 2 ^ 52 := Nat.pow_le_pow_right (by omega) (by omega)
      have b52 : (2 : Nat) ^ 52 = 4503599627370496 := by decide
      have mb : (bias + A.log2) * 2 ^ fr ≤ 1087 * 4503599627370496 := Nat.mul_le_mul (by omega) (by omega)
      have e2 := N64_sh1 fr (by omega)
      have e3 : N64 ((nI bias + nI A.log2).toInt64 <<< ((nI fr).toInt64 &&& 63)) = (bias + A.log2) * 2 ^ fr := by rw [N64_shl (by omega), e1, Nat.mod_eq_of_lt (by omega)]
      rw [N64_sub, N64_add, e2, e3, hl, Nat.mod_eq_of_lt (show (bias + A.log2) * 2 ^ fr + leadN A fr < 18446744073709551616 by omega)]
      generalize (bias + A.log2) * 2 ^ fr = X at mb ⊢
      generalize leadN A fr = Y at lb ⊢
      generalize 2 ^ fr = Z at lb pf ⊢
      omega
    rw [tX0_sizeOfWhole_20]
    by_cases c : fr < A.log2
    · obtain ⟨l, e39, hl⟩ := c_near (M := M) (d := A.log2 - fr) hs (by omega) (by omega)
      obtain ⟨r, e57, hr⟩ := fin l (by
        rw [hl]
        unfold leadN
        rw [show fr - A.log2 = 0 by omega, Nat.pow_zero, Nat.mul_one])
      refine ⟨r, clI_i (c_nlz64 hs h0) ?_, hr⟩
      rw [e63]
      refine it_t (nI_lt c (by omega)) (clJ_i ?_ e57)
      rw [nI_sub (by omega)]
      exact e39
    · have pl : A * 2 ^ (fr - A.log2) < 18446744073709551616 := by
        have l2 : A < 2 ^ (A.log2 + 1) := Nat.lt_log2_self
        have : A * 2 ^ (fr - A.log2) < 2 ^ (A.log2 + 1) * 2 ^ (fr - A.log2) := Nat.mul_lt_mul_of_pos_right l2 (Nat.two_pow_pos _)
        rw [← Nat.pow_add] at this
        have h53 : 2 ^ (A.log2 + 1 + (fr - A.log2)) ≤ 2 ^ 53 := Nat.pow_le_pow_right (by omega) (by omega)
        have b53 : (2 : Nat) ^ 53 = 9007199254740992 := by decide
        omega
      obtain ⟨r, e57, hr⟩ := fin (s <<< ((nI (fr - A.log2)).toInt64 &&& 63)) (by
        rw [N64_shl (by omega), hs, Nat.mod_eq_of_lt pl]
        unfold leadN
        rw [show A.log2 - fr = 0 by omega, Nat.pow_zero]
        have := FP.Core.nearest_exact (B := 1) (A * 2 ^ (fr - A.log2)) (by decide)
        rw [Nat.mul_one] at this
        exact this.symm)
      refine ⟨r, clI_i (c_nlz64 hs h0) ?_, hr⟩
      rw [e63]
      refine it_f (nI_nl0 (by omega) (by omega)) ?_
      rw [nI_sub (by omega)]
      exact e57
  have hw0 : ¬ lg_cmp w (0 : Int64) = 0 := fun z => by
    rw [cmp_eq0] at z
    rw [z] at hA
    have : (0 : Int64).toInt.natAbs = 0 := rfl
    omega
  have z0 : (0 : Int64).toInt = 0 := rfl
  rw [tX0_sizeOfWhole]
  by_cases c : 0 ≤ lg_cmp w (0 : Int64)
  · have c' := cmp_ge0.mp c
    rw [I64_le, z0] at c'
    obtain ⟨r, h1, h2⟩ := key w (by rw [hi] at c' hA; split at hA <;> omega)
    exact ⟨r, it_t hw0 (it_t c h1), h2⟩
  · have c' : w.toInt < 0 := by
      have c2 : ¬ (0 : Int64) ≤ w := fun h => c (cmp_ge0.mpr h)
      rw [I64_le, z0] at c2
      omega
    obtain ⟨r, h1, h2⟩ := key (-w) (by
      have e : N64 (-w) = (18446744073709551616 - N64 w) % 18446744073709551616 := by
        show (-w.toBitVec).toNat = _
        rw [BitVec.toNat_neg]
        rfl
      rw [e]
      rw [hi] at c' hA
      split at hA <;> omega)
    exact ⟨r, it_t hw0 (it_f c h1), h2⟩
