/-! FLOATS: a float as a double: the class; order -/
theorem u32_split (b : Int32) : ∃ sb mg, b.toUInt32.toNat = Bool.toNat sb * 2147483648 + mg ∧ mg < 2147483648 ∧ (b &&& 2147483647) = nI mg ∧ (0 ≤ b ↔ sb = false) := by
  have hlt : b.toUInt32.toNat < 4294967296 := b.toUInt32.toNat_lt
  have hi : b.toInt = if b.toUInt32.toNat < 2147483648 then (b.toUInt32.toNat : Int) else (b.toUInt32.toNat : Int) - 4294967296 := by
    show b.toBitVec.toInt = _
    rw [BitVec.toInt_eq_toNat_cond]
    have e : b.toBitVec.toNat = b.toUInt32.toNat := rfl
    rw [e]
    by_cases h : b.toUInt32.toNat < 2147483648
    · rw [if_pos h, if_pos (by omega)]
    · rw [if_neg h, if_neg (by omega)]
      rfl
  have hand : (b &&& 2147483647) = nI (b.toUInt32.toNat % 2147483648) := by
    apply i32_of
    rw [Int32.toUInt32_and, UInt32.toNat_and, show (Int32.toUInt32 2147483647).toNat = 2 ^ 31 - 1 by decide, Nat.and_two_pow_sub_one_eq_mod]
  have z : (0 : Int32).toInt = 0 := rfl
  by_cases h : b.toUInt32.toNat < 2147483648
  · refine ⟨false, b.toUInt32.toNat, by simp, h, by rw [hand, Nat.mod_eq_of_lt h], ?_⟩
    rw [I32_le, z, hi, if_pos h]
    exact ⟨fun _ => rfl, fun _ => by omega⟩
  · refine ⟨true, b.toUInt32.toNat - 2147483648, by simp; omega, by omega, by rw [hand, show b.toUInt32.toNat % 2147483648 = b.toUInt32.toNat - 2147483648 by omega], ?_⟩
    rw [I32_le, z, hi, if_neg h]
    exact ⟨fun w => by omega, fun w => by cases w⟩
theorem shr23 {mg : Nat} (h : mg < 2147483648) : (nI mg >>> ((23 : Int32) &&& 31)) = nI (mg / 8388608) := by
  apply Int32.toInt_inj.mp
  rw [nI_toInt (by omega)]
  show ((nI mg).toBitVec.sshiftRight' (((23 : Int32) &&& 31).toBitVec.smod 32)).toInt = _
  rw [show (((23 : Int32) &&& 31).toBitVec.smod 32) = 23#32 by decide]
  show ((nI mg).toBitVec.sshiftRight 23).toInt = _
  rw [BitVec.toInt_sshiftRight]
  show (nI mg).toInt >>> 23 = _
  rw [nI_toInt h, Int.shiftRight_eq_div_pow]
  omega
theorem exp_n : ∀ e, e < 255 → ((nI e - 127) + 1023 : Int32) = nI (e + 896) := by decide +kernel
theorem exp_s : ∀ t, t < 23 → (((1 - (nI (63 - t) - 40)) - 127) + 1023 : Int32) = nI (t + 874) := by decide +kernel
theorem c_dof90 {s0 l5 : Int64} {l4 : Int32} {e fr : Nat} {sb : Bool} {M : Mem} (hs : N64 s0 = sb.toNat * 9223372036854775808) (he : (l4 - 127) + 1023 = nI e) (he2 : e < 2048) (hf : N64 l5 = fr) (hf2 : fr < 8388608) : ∃ r, rn PP 40 90 [none, some (pJ s0), none, none, some (pI l4), some (pJ l5), none, none, none] [] M = some (some (pJ r), M) ∧ N64 r = sb.toNat * 9223372036854775808 + (e * 4503599627370496 + fr * 536870912) := by
  refine ⟨_, tX0_doubleOfFloat_90 _ _ _ _, ?_⟩
  have hb : sb.toNat ≤ 1 := Bool.toNat_le _
  have e1 : N64 ((nI e).toInt64 <<< ((52 : Int32).toInt64 &&& 63)) = e * 4503599627370496 := by
    rw [show (52 : Int32) = nI 52 from rfl, N64_shl (by omega), nI_l (by omega)]
    show (BitVec.ofNat 64 e).toNat * 2 ^ 52 % 18446744073709551616 = _
    rw [BitVec.toNat_ofNat, Nat.mod_eq_of_lt (show e < 2 ^ 64 by omega), show (2 : Nat) ^ 52 = 4503599627370496 by decide]
    exact Nat.mod_eq_of_lt (by omega)
  have e2 : N64 (l5 <<< ((29 : Int32).toInt64 &&& 63)) = fr * 536870912 := by
    rw [show (29 : Int32) = nI 29 from rfl, N64_shl (by omega), hf, show (2 : Nat) ^ 29 = 536870912 by decide]
    exact Nat.mod_eq_of_lt (by omega)
  rw [he, N64_or, N64_or, hs, e1, e2]
  have a1 := Nat.two_pow_add_eq_or_of_lt (i := 63) (b := e * 4503599627370496) (by rw [show (2 : Nat) ^ 63 = 9223372036854775808 by decide]; omega) sb.toNat
  rw [show (2 : Nat) ^ 63 = 9223372036854775808 by decide] at a1
  rw [show sb.toNat * 9223372036854775808 = 9223372036854775808 * sb.toNat by omega, ← a1]
  have a2 := Nat.two_pow_add_eq_or_of_lt (i := 52) (b := fr * 536870912) (by rw [show (2 : Nat) ^ 52 = 4503599627370496 by decide]; omega) (2048 * sb.toNat + e)
  rw [show (2 : Nat) ^ 52 = 4503599627370496 by decide] at a2
  rw [show 9223372036854775808 * sb.toNat + e * 4503599627370496 = 4503599627370496 * (2048 * sb.toNat + e) by omega, ← a2]
  omega
theorem c_dof {b : Int32} {mg : Nat} {sb : Bool} {M : Mem} (hn : b.toUInt32.toNat = sb.toNat * 2147483648 + mg) (h : mg ≤ 2139095040) : ex 40 9 [pI b] M = some (some (pJ (FP.f2d b.toUInt32).toInt64), M) := by
  obtain ⟨sb', mg', u1, u2, u3, u4⟩ := u32_split b
  have hsm : sb' = sb ∧ mg' = mg := by
    rw [hn] at u1
    cases sb <;> cases sb' <;> simp at u1 ⊢ <;> omega
  obtain ⟨rfl, rfl⟩ := hsm
  have fN := f2d_N hn h
  have e : N64 ((FP.f2d b.toUInt32).toInt64) = (FP.f2d b.toUInt32).toNat := by show ((FP.f2d b.toUInt32).toInt64).toUInt64.toNat = _; rw [UInt64.toUInt64_toInt64]
  have key : ∀ s0 : Int64, N64 s0 = sb'.toNat * 9223372036854775808 → rn PP 40 11 [some (pI b), none, none, none, none, none, none, none, none] [pJ s0] M = some (some (pJ (FP.f2d b.toUInt32).toInt64), M) := fun s0 hs => by
    rw [tX0_doubleOfFloat_11, u3]
    unfold dm at fN
    by_cases c0 : mg' = 0
    · rw [if_pos c0] at fN
      refine it_f (not_not_intro (by rw [c0]; rfl)) ?_
      rw [show s0 = (FP.f2d b.toUInt32).toInt64 from N64_inj (by rw [e, fN, hs, Nat.add_zero])]
    · rw [if_neg c0] at fN
      refine it_t (fun z => c0 (nI_inj (b := 0) (by omega) (by omega) z)) ?_
      by_cases c1 : mg' = 2139095040
      · rw [if_pos c1] at fN
        refine it_t (by rw [c1]; decide) (it_f (not_not_intro (by rw [c1]; rfl)) ?_)
        rw [show s0 ||| (9218868437227405312 : Int64) = (FP.f2d b.toUInt32).toInt64 from N64_inj (by
          rw [e, fN, N64_or, hs, show N64 (9218868437227405312 : Int64) = 9218868437227405312 by decide]
          cases sb' <;> decide)]
      · rw [if_neg c1] at fN
        refine it_t (nI_le (b := 2139095040) (by omega) (by omega)) (it_t (fun z => c1 (nI_inj (b := 2139095040) (by omega) (by omega) z)) ?_)
        have efr : (nI mg' &&& 8388607) = nI (mg' % 8388608) := by
          apply i32_of
          rw [Int32.toUInt32_and, UInt32.toNat_and, nI_u32 (by omega), show (Int32.toUInt32 8388607).toNat = 2 ^ 23 - 1 by decide, Nat.and_two_pow_sub_one_eq_mod]
        have lfr : N64 ((nI (mg' % 8388608)).toInt64) = mg' % 8388608 := by
          rw [nI_l (by omega)]
          show (BitVec.ofNat 64 (mg' % 8388608)).toNat = _
          rw [BitVec.toNat_ofNat]
          exact Nat.mod_eq_of_lt (by omega)
        rw [shr23 u2, efr]
        by_cases c2 : mg' / 8388608 = 0
        · rw [if_pos c2] at fN
          obtain ⟨a1, a2, a3⟩ := sub_b (mg := mg') (by omega) (by omega)
          have lfr' : N64 ((nI (mg' % 8388608)).toInt64) = mg' := by rw [lfr]; omega
          have esh : nI (63 - mg'.log2) - 40 = nI (23 - mg'.log2) := by rw [show (40 : Int32) = nI 40 from rfl, nI_sub (by omega), show 63 - mg'.log2 - 40 = 23 - mg'.log2 by omega]
          have pw : mg' * 2 ^ (52 - mg'.log2) = mg' * 2 ^ (23 - mg'.log2) * 536870912 := by
            rw [show 52 - mg'.log2 = (23 - mg'.log2) + 29 by omega, Nat.pow_add, ← Nat.mul_assoc, show (2 : Nat) ^ 29 = 536870912 by decide]
          rw [pw] at a2 a3 fN
          have ef : N64 (((nI (mg' % 8388608)).toInt64 <<< ((nI (63 - mg'.log2) - 40).toInt64 &&& 63)) - (8388608 : Int64)) = mg' * 2 ^ (23 - mg'.log2) - 8388608 := by
            rw [N64_sub, esh, N64_shl (by omega), lfr', show N64 (8388608 : Int64) = 8388608 by decide]
            generalize mg' * 2 ^ (23 - mg'.log2) = X at a2 a3 ⊢
            omega
          obtain ⟨r, e90, hr⟩ := c_dof90 (M := M) (sb := sb') hs (exp_s mg'.log2 a1) (by omega) ef (by
            generalize mg' * 2 ^ (23 - mg'.log2) = X at a2 a3 ⊢
            omega)
          refine it_f (not_not_intro (by rw [c2]; rfl)) (clI_i (c_nlz64 lfr' (by omega)) ?_)
          rw [e90, show r = (FP.f2d b.toUInt32).toInt64 from N64_inj (by
            rw [e, fN, hr]
            generalize mg' * 2 ^ (23 - mg'.log2) = X at a2 a3 ⊢
            omega)]
        · rw [if_neg c2] at fN
          obtain ⟨r, e90, hr⟩ := c_dof90 (M := M) (sb := sb') hs (exp_n (mg' / 8388608) (by omega)) (by omega) lfr (by omega)
          refine it_t (fun z => c2 (nI_inj (b := 0) (by omega) (by omega) z)) ?_
          rw [e90, show r = (FP.f2d b.toUInt32).toInt64 from N64_inj (by rw [e, fN, hr])]
  rw [tX0_doubleOfFloat]
  by_cases c : 0 ≤ b
  · refine it_t c (key 0 ?_)
    rw [u4.mp c]
    rfl
  · refine it_f c (key _ ?_)
    have : sb' = true := by
      cases sb' with
      | true => rfl
      | false => exact absurd (u4.mpr rfl) c
    rw [this]
    decide
theorem dkey_place (v : Int64) (M : Mem) : ∃ r, ex 35 2 [pJ v] M = some (some (pJ r), M) ∧ r.toInt = FP.Core.dkey v.toUInt64 := by
  have hi := N64_int v
  have hlt := N64_lt v
  have z0 : (0 : Int64).toInt = 0 := rfl
  have b63 : (2 : Nat) ^ 63 = 9223372036854775808 := by decide
  rw [tX0_place]
  unfold FP.Core.dkey
  by_cases c : lg_cmp v (0 : Int64) < 0
  · have c' := cmp_lt0.mp c
    rw [I64_lt, z0] at c'
    refine ⟨_, it_t c rfl, ?_⟩
    have hN : 9223372036854775808 ≤ N64 v := by
      rw [hi] at c'
      split at c' <;> omega
    have ha : N64 (v &&& 9223372036854775807) = N64 v - 9223372036854775808 := by
      rw [N64_and, show N64 (9223372036854775807 : Int64) = 2 ^ 63 - 1 by decide, Nat.and_two_pow_sub_one_eq_mod, b63]
      omega
    have hg : N64 (-(v &&& 9223372036854775807)) = (18446744073709551616 - (N64 v - 9223372036854775808)) % 18446744073709551616 := by
      rw [← ha]
      show (-(v &&& 9223372036854775807).toBitVec).toNat = _
      rw [BitVec.toNat_neg]
      rfl
    rw [N64_int, hg, b63, if_pos (show 9223372036854775808 ≤ v.toUInt64.toNat from hN)]
    show _ = ((9223372036854775808 : Nat) : Int) - ((N64 v : Nat) : Int)
    split <;> omega
  · have c2 : ¬ v < 0 := fun h => c (cmp_lt0.mpr h)
    rw [I64_lt, z0] at c2
    refine ⟨_, it_f c rfl, ?_⟩
    have hN : N64 v < 9223372036854775808 := by
      rw [hi] at c2
      split at c2 <;> omega
    rw [hi, if_pos hN, b63, if_neg (show ¬ 9223372036854775808 ≤ v.toUInt64.toNat by show ¬ 9223372036854775808 ≤ N64 v; omega)]
