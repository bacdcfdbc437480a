/-! FLOATS: a float as a double -/
def dm (mg : Nat) : Nat := if mg = 0 then 0 else if mg = 2139095040 then 9218868437227405312 else if mg / 8388608 = 0 then (mg.log2 + 874) * 4503599627370496 + (mg * 2 ^ (52 - mg.log2) - 4503599627370496) else (mg / 8388608 + 896) * 4503599627370496 + mg % 8388608 * 536870912
theorem sub_b {mg : Nat} (h0 : 0 < mg) (h : mg < 8388608) : mg.log2 < 23 ∧ 4503599627370496 ≤ mg * 2 ^ (52 - mg.log2) ∧ mg * 2 ^ (52 - mg.log2) < 9007199254740992 := by
  have l1 : 2 ^ mg.log2 ≤ mg := Nat.log2_self_le (by omega)
  have l2 : mg < 2 ^ (mg.log2 + 1) := Nat.lt_log2_self
  have l3 : mg.log2 < 23 := (Nat.log2_lt (by omega)).mpr (by omega)
  refine ⟨l3, ?_, ?_⟩
  · have := Nat.mul_le_mul_right (2 ^ (52 - mg.log2)) l1
    rw [← Nat.pow_add, show mg.log2 + (52 - mg.log2) = 52 by omega, show (2 : Nat) ^ 52 = 4503599627370496 by decide] at this
    exact this
  · have := Nat.mul_lt_mul_of_pos_right l2 (Nat.two_pow_pos (52 - mg.log2))
    rw [← Nat.pow_add, show mg.log2 + 1 + (52 - mg.log2) = 53 by omega, show (2 : Nat) ^ 53 = 9007199254740992 by decide] at this
    exact this
theorem dm_le {mg : Nat} (h : mg ≤ 2139095040) : dm mg ≤ 9218868437227405312 := by
  unfold dm
  split
  · omega
  · split
    · omega
    · split
      · obtain ⟨a, b, c⟩ := sub_b (mg := mg) (by omega) (by omega)
        generalize mg * 2 ^ (52 - mg.log2) = X at b c ⊢
        omega
      · omega
theorem dec32 {n mg : Nat} {sb : Bool} (hn : n = sb.toNat * 2147483648 + mg) (h : mg ≤ 2139095040) : FP.Core.decode FP.Core.b32 n = if mg / 8388608 = 255 then .inf sb else if mg / 8388608 = 0 then .fin sb mg (-149) else .fin sb (8388608 + mg % 8388608) (-149 + (((mg / 8388608 : Nat) : Int) - 1)) := by
  have t1 : FP.Core.b32.tails = 8388608 := by decide
  have t2 : FP.Core.b32.exps = 256 := by decide
  have t3 : FP.Core.b32.qmin = -149 := by decide
  have hb : sb.toNat ≤ 1 := Bool.toNat_le _
  have fT : FP.Core.fieldT FP.Core.b32 n = mg % 8388608 := by unfold FP.Core.fieldT; rw [t1]; omega
  have fE : FP.Core.fieldE FP.Core.b32 n = mg / 8388608 := by unfold FP.Core.fieldE; rw [t1, t2]; omega
  have fS : FP.Core.fieldS FP.Core.b32 n = sb := by
    unfold FP.Core.fieldS
    rw [t1, t2, show n / 8388608 / 256 % 2 = sb.toNat by omega]
    cases sb <;> rfl
  unfold FP.Core.decode
  rw [fT, fE, fS, t1, t2, t3]
  by_cases c1 : mg / 8388608 = 255
  · rw [if_pos c1, if_pos c1, if_pos (by omega)]
  · rw [if_neg c1, if_neg c1]
    by_cases c2 : mg / 8388608 = 0
    · rw [if_pos c2, if_pos c2, show mg % 8388608 = mg by omega]
    · rw [if_neg c2, if_neg c2]
theorem enc64 {mg n : Nat} {sb : Bool} (hn : n = sb.toNat * 2147483648 + mg) (h : mg ≤ 2139095040) : FP.Core.encode FP.Core.b64 (FP.Core.round FP.Core.b64 (FP.Core.decode FP.Core.b32 n)) = sb.toNat * 9223372036854775808 + dm mg := by
  have t1 : FP.Core.b64.tails = 4503599627370496 := by decide
  have t2 : FP.Core.b64.exps = 2048 := by decide
  have t3 : FP.Core.b64.qmin = -1074 := by decide
  have t4 : FP.Core.b64.qmax = 971 := by decide
  have t5 : 2 ^ FP.Core.b64.p = 9007199254740992 := by decide
  have asm : ∀ e t, FP.Core.assemble FP.Core.b64 sb e t = sb.toNat * 9223372036854775808 + (e * 4503599627370496 + t) := fun e t => by
    unfold FP.Core.assemble
    rw [t1, t2]
    omega
  rw [dec32 hn h]
  unfold dm
  by_cases c0 : mg = 0
  · subst c0
    rw [if_neg (by decide), if_pos (by decide), if_pos rfl]
    show FP.Core.encode FP.Core.b64 (FP.Core.roundRatio FP.Core.b64 sb 0 1 (-149)) = _
    unfold FP.Core.roundRatio
    rw [if_pos rfl]
    show (if 0 < FP.Core.b64.tails then FP.Core.assemble FP.Core.b64 sb 0 0 else FP.Core.assemble FP.Core.b64 sb ((FP.Core.b64.qmin - FP.Core.b64.qmin).toNat + 1) (0 - FP.Core.b64.tails)) = _
    rw [if_pos (by rw [t1]; omega), asm]
  · rw [if_neg c0]
    by_cases c1 : mg = 2139095040
    · subst c1
      rw [if_pos (by decide), if_pos rfl]
      show FP.Core.assemble FP.Core.b64 sb (FP.Core.b64.exps - 1) 0 = _
      rw [asm, t2]
    · rw [if_neg c1, if_neg (show ¬ mg / 8388608 = 255 by omega)]
      by_cases c2 : mg / 8388608 = 0
      · rw [if_pos c2, if_pos c2]
        obtain ⟨a, b, c⟩ := sub_b (mg := mg) (by omega) (by omega)
        have hr : FP.Core.round FP.Core.b64 (.fin sb mg (-149)) = .fin sb (mg * 2 ^ (52 - mg.log2)) (-149 - ((52 - mg.log2 : Nat) : Int)) := by
          refine FP.Core.roundRatio_exact FP.Core.good_b64 (by decide) ⟨by rw [t5]; exact c, by rw [t3]; omega, by rw [t4]; omega, Or.inr (by rw [t1]; exact b)⟩ ?_
          rw [show (-149 - (-149 - ((52 - mg.log2 : Nat) : Int))).toNat = 52 - mg.log2 by omega, show (-149 - ((52 - mg.log2 : Nat) : Int) - -149).toNat = 0 by omega, Nat.pow_zero, Nat.mul_one, Nat.mul_one]
        rw [hr]
        show (if mg * 2 ^ (52 - mg.log2) < FP.Core.b64.tails then FP.Core.assemble FP.Core.b64 sb 0 (mg * 2 ^ (52 - mg.log2)) else FP.Core.assemble FP.Core.b64 sb ((-149 - ((52 - mg.log2 : Nat) : Int) - FP.Core.b64.qmin).toNat + 1) (mg * 2 ^ (52 - mg.log2) - FP.Core.b64.tails)) = _
        rw [if_neg (by rw [t1]; omega), asm, t1, t3, show (-149 - ((52 - mg.log2 : Nat) : Int) - -1074).toNat + 1 = mg.log2 + 874 by omega]
      · rw [if_neg c2, if_neg c2]
        have hr : FP.Core.round FP.Core.b64 (.fin sb (8388608 + mg % 8388608) (-149 + (((mg / 8388608 : Nat) : Int) - 1))) = .fin sb ((8388608 + mg % 8388608) * 536870912) (-149 + (((mg / 8388608 : Nat) : Int) - 1) - 29) := by
          refine FP.Core.roundRatio_exact FP.Core.good_b64 (by decide) ⟨by rw [t5]; omega, by rw [t3]; omega, by rw [t4]; omega, Or.inr (by rw [t1]; omega)⟩ ?_
          rw [show (-149 + (((mg / 8388608 : Nat) : Int) - 1) - (-149 + (((mg / 8388608 : Nat) : Int) - 1) - 29)).toNat = 29 by omega, show (-149 + (((mg / 8388608 : Nat) : Int) - 1) - 29 - (-149 + (((mg / 8388608 : Nat) : Int) - 1))).toNat = 0 by omega, Nat.pow_zero, Nat.mul_one, Nat.mul_one]
        rw [hr]
        show (if (8388608 + mg % 8388608) * 536870912 < FP.Core.b64.tails then FP.Core.assemble FP.Core.b64 sb 0 ((8388608 + mg % 8388608) * 536870912) else FP.Core.assemble FP.Core.b64 sb ((-149 + (((mg / 8388608 : Nat) : Int) - 1) - 29 - FP.Core.b64.qmin).toNat + 1) ((8388608 + mg % 8388608) * 536870912 - FP.Core.b64.tails)) = _
        rw [if_neg (by rw [t1]; omega), asm, t1, t3, show (-149 + (((mg / 8388608 : Nat) : Int) - 1) - 29 - -1074).toNat + 1 = mg / 8388608 + 896 by omega, show (8388608 + mg % 8388608) * 536870912 - 4503599627370496 = mg % 8388608 * 536870912 by omega]
theorem f2d_N {a : UInt32} {mg : Nat} {sb : Bool} (hn : a.toNat = sb.toNat * 2147483648 + mg) (h : mg ≤ 2139095040) : (FP.f2d a).toNat = sb.toNat * 9223372036854775808 + dm mg := by
  have hd := dm_le h
  have hb : sb.toNat ≤ 1 := Bool.toNat_le _
  have nn : FP.Core.fIsNaN a = false := by
    unfold FP.Core.fIsNaN FP.Core.isNaN
    rw [dec32 hn h]
    refine decide_eq_false (fun z => ?_)
    split at z
    · exact FP.Core.Datum.noConfusion z
    · split at z <;> exact FP.Core.Datum.noConfusion z
  unfold FP.f2d
  rw [nn, if_neg (by decide)]
  show (UInt64.ofNat (FP.Core.encode FP.Core.b64 (FP.Core.round FP.Core.b64 (FP.Core.decode FP.Core.b32 a.toNat)))).toNat = _
  rw [enc64 hn h, UInt64.toNat_ofNat']
  generalize dm mg = X at hd
  exact Nat.mod_eq_of_lt (Nat.lt_of_lt_of_le (Nat.add_lt_add_of_le_of_lt (Nat.mul_le_mul_right _ hb) (Nat.lt_of_le_of_lt hd (show 9218868437227405312 < 9223372036854775808 by decide))) (by decide))
