/-! FLOATS: isBetween -/
theorem cv_l {a b : Int} : (Op.cmpValue (some (compare a b)) .l < 0 ↔ a < b) ∧ (0 < Op.cmpValue (some (compare a b)) .g ↔ b < a) ∧ (Op.cmpValue (some (compare a b)) .l = 0 ↔ a = b) := by
  rcases Int.lt_trichotomy a b with h | h | h
  · rw [Int.compare_eq_lt.mpr h]
    exact ⟨⟨fun _ => h, fun _ => by decide⟩, ⟨fun z => absurd z (by decide), fun z => by omega⟩, ⟨fun z => absurd z (by decide), fun z => by omega⟩⟩
  · rw [Int.compare_eq_eq.mpr h]
    exact ⟨⟨fun z => absurd z (by decide), fun z => by omega⟩, ⟨fun z => absurd z (by decide), fun z => by omega⟩, ⟨fun _ => h, fun _ => by decide⟩⟩
  · rw [Int.compare_eq_gt.mpr h]
    exact ⟨⟨fun z => absurd z (by decide), fun z => by omega⟩, ⟨fun _ => h, fun _ => by decide⟩, ⟨fun z => absurd z (by decide), fun z => by omega⟩⟩
theorem l2d_num (a : Int64) : (FP.l2d a).toNat % 9223372036854775808 ≤ 9218868437227405312 := by
  by_cases hw : a = 0
  · subst hw
    rw [show FP.l2d 0 = 0 by decide +kernel]
    decide
  · have h0 : 0 < a.toInt.natAbs := by
      have : a.toInt ≠ 0 := fun z => hw (Int64.toInt_inj.mp (by rw [z]; rfl))
      omega
    have h63 := abs63 (w := a) rfl h0
    have lb := leadN_b (fr := 52) h0
    rw [show (2 : Nat) ^ 52 = 4503599627370496 by decide] at lb
    obtain ⟨l1, l2⟩ := l2d_N rfl h0
    rw [l1, Nat.add_comm, Nat.add_mul_mod_self_right, Nat.mod_eq_of_lt l2]
    omega
theorem nn64 {d : UInt64} (h : d.toNat % 9223372036854775808 ≤ 9218868437227405312) : FP.Core.val64 d ≠ .nan := (FP.Core.ne_nan d).mpr (by rw [show (2 : Nat) ^ 63 = 9223372036854775808 by decide]; exact h)
theorem num_iff (v : Int64) : (v &&& 9223372036854775807) ≤ (9218868437227405312 : Int64) ↔ N64 v % 9223372036854775808 ≤ 9218868437227405312 := by
  have ha : N64 (v &&& 9223372036854775807) = N64 v % 9223372036854775808 := by
    rw [N64_and, show N64 (9223372036854775807 : Int64) = 2 ^ 63 - 1 by decide, Nat.and_two_pow_sub_one_eq_mod, show (2 : Nat) ^ 63 = 9223372036854775808 by decide]
  rw [I64_le, N64_pos (by rw [ha]; omega), ha, show (9218868437227405312 : Int64).toInt = 9218868437227405312 by decide]
  omega
/-- a double that is a number lies between two whole numbers -/
def btD (d : UInt64) (a b : Int64) : Bool := decide (¬ FP.Core.dkey d < FP.Core.dkey (FP.l2d a) ∧ ¬ FP.Core.dkey (FP.l2d b) < FP.Core.dkey d)
theorem cmp_keys {r r' : Int64} : (lg_cmp r r' < 0 ↔ r.toInt < r'.toInt) ∧ (0 < lg_cmp r r' ↔ r'.toInt < r.toInt) := by
  rw [cmp_lt0, cmp_gt0, I64_lt, I64_lt]
  exact ⟨Iff.rfl, Iff.rfl⟩
theorem c_btD {v a b : Int64} {M : Mem} (h : N64 v % 9223372036854775808 ≤ 9218868437227405312) : (clI (ex 32 2 [pJ v] M) fun r2 M1 => if ¬ r2 = 0 then clJ (ex 35 2 [pJ v] M1) fun r4 M3 => clJ (ex 37 4 [pJ a] M3) fun r6 M5 => clJ (ex 35 2 [pJ r6] M5) fun r8 M7 => if lg_cmp r4 r8 < 0 then zo 0 (some (some (pI 0), M7)) else clJ (ex 35 2 [pJ v] M7) fun r10 M9 => clJ (ex 37 4 [pJ b] M9) fun r12 M11 => clJ (ex 35 2 [pJ r12] M11) fun r14 M13 => if 0 < lg_cmp r10 r14 then zo 0 (some (some (pI 0), M13)) else zo 1 (some (some (pI 1), M13)) else zo 0 (some (some (pI 0), M1))) = some (some (pI (b32 (btD v.toUInt64 a b))), M) := by
  obtain ⟨r, e1, k1⟩ := dkey_place v M
  obtain ⟨ra, e2, k2⟩ := dkey_place (FP.l2d a).toInt64 M
  obtain ⟨rb, e3, k3⟩ := dkey_place (FP.l2d b).toInt64 M
  rw [UInt64.toUInt64_toInt64] at k2 k3
  have c1 := cmp_keys (r := r) (r' := ra)
  have c2 := cmp_keys (r := r) (r' := rb)
  rw [k1, k2] at c1
  rw [k1, k3] at c2
  refine clI_i (c_isNum v M) ?_
  rw [if_pos ((num_iff v).mpr h)]
  refine it_t (by decide) (clJ_i e1 (clJ_i (c_dow a M) (clJ_i e2 ?_)))
  unfold btD
  by_cases q1 : lg_cmp r ra < 0
  · rw [decide_eq_false (fun z => z.1 (c1.1.mp q1))]
    exact it_t q1 (zo_i (Or.inl rfl) rfl)
  · refine it_f q1 (clJ_i e1 (clJ_i (c_dow b M) (clJ_i e3 ?_)))
    by_cases q2 : 0 < lg_cmp r rb
    · rw [decide_eq_false (fun z => z.2 (c2.2.mp q2))]
      exact it_t q2 (zo_i (Or.inl rfl) rfl)
    · rw [decide_eq_true ⟨fun z => q1 (c1.1.mpr z), fun z => q2 (c2.2.mpr z)⟩]
      exact it_f q2 (zo_i (Or.inr rfl) rfl)
theorem m_btD {d : UInt64} {a b : Int64} {M : Mem} (h : d.toNat % 9223372036854775808 ≤ 9218868437227405312) : (if Op.cmpValue (FP.dcmp d (FP.l2d a)) .l < 0 then zo 0 (some (some (pI 0), M)) else if 0 < Op.cmpValue (FP.dcmp d (FP.l2d b)) .g then zo 0 (some (some (pI 0), M)) else zo 1 (some (some (pI 1), M))) = (some (some (pI (b32 (btD d a b))), M) : Option Rt) := by
  have e1 : FP.dcmp d (FP.l2d a) = some (compare (FP.Core.dkey d) (FP.Core.dkey (FP.l2d a))) := FP.Core.dcmp_key (nn64 h) (nn64 (l2d_num a))
  have e2 : FP.dcmp d (FP.l2d b) = some (compare (FP.Core.dkey d) (FP.Core.dkey (FP.l2d b))) := FP.Core.dcmp_key (nn64 h) (nn64 (l2d_num b))
  rw [e1, e2]
  unfold btD
  by_cases q1 : FP.Core.dkey d < FP.Core.dkey (FP.l2d a)
  · rw [decide_eq_false (fun z => z.1 q1)]
    exact it_t (cv_l.1.mpr q1) (zo_i (Or.inl rfl) rfl)
  · refine it_f (fun z => q1 (cv_l.1.mp z)) ?_
    by_cases q2 : FP.Core.dkey (FP.l2d b) < FP.Core.dkey d
    · rw [decide_eq_false (fun z => z.2 q2)]
      exact it_t (cv_l.2.1.mpr q2) (zo_i (Or.inl rfl) rfl)
    · rw [decide_eq_true ⟨q1, q2⟩]
      exact it_f (fun z => q2 (cv_l.2.1.mp z)) (zo_i (Or.inr rfl) rfl)
theorem snl_num {v : Int64} (h : N64 v % 9223372036854775808 ≤ 9218868437227405312) : vn_snl2d v = false := by
  have : ¬ (v.toUInt64 &&& 0x7fffffffffffffff > 0x7ff0000000000000) := by
    rw [gt_iff_lt, UInt64.lt_iff_toNat_lt, UInt64.toNat_and, show (0x7fffffffffffffff : UInt64).toNat = 2 ^ 63 - 1 by decide, Nat.and_two_pow_sub_one_eq_mod, show (2 : Nat) ^ 63 = 9223372036854775808 by decide, show (0x7ff0000000000000 : UInt64).toNat = 9218868437227405312 by decide]
    exact Nat.not_lt.mpr h
  unfold vn_snl2d
  rw [decide_eq_false this]
  rfl
theorem sni_num {b : Int32} {mg : Nat} {sb : Bool} (hn : b.toUInt32.toNat = sb.toNat * 2147483648 + mg) (h2 : mg < 2147483648) (h : mg ≤ 2139095040) : vn_sni2f b = false := by
  have : ¬ (b.toUInt32 &&& 0x7fffffff > 0x7f800000) := by
    rw [gt_iff_lt, UInt32.lt_iff_toNat_lt, UInt32.toNat_and, show (0x7fffffff : UInt32).toNat = 2 ^ 31 - 1 by decide, Nat.and_two_pow_sub_one_eq_mod, show (2 : Nat) ^ 31 = 2147483648 by decide, show (0x7f800000 : UInt32).toNat = 2139095040 by decide, hn]
    omega
  unfold vn_sni2f
  rw [decide_eq_false this]
  rfl
theorem f2d_num {b : UInt32} {mg : Nat} {sb : Bool} (hn : b.toNat = sb.toNat * 2147483648 + mg) (h : mg ≤ 2139095040) : (FP.f2d b).toNat % 9223372036854775808 ≤ 9218868437227405312 ∧ FP.f2d b &&& 0x7fffffffffffffff ≤ 0x7ff0000000000000 := by
  have hd := dm_le h
  have e : (FP.f2d b).toNat % 9223372036854775808 ≤ 9218868437227405312 := by
    rw [f2d_N hn h, Nat.add_comm, Nat.add_mul_mod_self_right]
    omega
  refine ⟨e, ?_⟩
  rw [UInt64.le_iff_toNat_le, UInt64.toNat_and, show (0x7fffffffffffffff : UInt64).toNat = 2 ^ 63 - 1 by decide, Nat.and_two_pow_sub_one_eq_mod, show (2 : Nat) ^ 63 = 9223372036854775808 by decide, show (0x7ff0000000000000 : UInt64).toNat = 9218868437227405312 by decide]
  exact e
theorem shp6 {v : Int64} (h : shp 6 v = v) : v = 2143289344 ∨ ∃ sb mg, v.toInt32.toUInt32.toNat = Bool.toNat sb * 2147483648 + mg ∧ mg < 2147483648 ∧ mg ≤ 2139095040 := by
  obtain ⟨sb, mg, u1, u2, u3, u4⟩ := u32_split v.toInt32
  have e : shp 6 v = if (v.toInt32 &&& 2147483647) ≤ 2139095040 then v.toInt32.toInt64 else 2143289344 := rfl
  rw [e, u3] at h
  by_cases c : nI mg ≤ (2139095040 : Int32)
  · refine Or.inr ⟨sb, mg, u1, u2, ?_⟩
    rw [I32_le, nI_toInt u2, show (2139095040 : Int32).toInt = 2139095040 by decide] at c
    omega
  · rw [if_neg c] at h
    exact Or.inl h.symm
theorem shp7 {v : Int64} (h : shp 7 v = v) : v = 9221120237041090560 ∨ N64 v % 9223372036854775808 ≤ 9218868437227405312 := by
  have e : shp 7 v = if (v &&& 9223372036854775807) ≤ 9218868437227405312 then v else 9221120237041090560 := rfl
  rw [e] at h
  by_cases c : (v &&& 9223372036854775807) ≤ (9218868437227405312 : Int64)
  · exact Or.inr ((num_iff v).mp c)
  · rw [if_neg c] at h
    exact Or.inl h.symm
theorem btw_both {s : Int32} {v a b : Int64} (hs : s < 8) (hv : shp s v = v) : ∃ B : Bool, (∀ M, ex 34 9 [pI s, pJ v, pJ a, pJ b] M = some (some (pI (b32 B)), M)) ∧ (∀ M, ex 201 9 [pI s, pJ v, pJ a, pJ b] M = some (some (pI (b32 B)), M)) := by
  by_cases h6 : s = 6
  · subst h6
    rcases shp6 hv with rfl | ⟨sb, mg, u1, u2, u3⟩
    · refine ⟨false, fun M => ?_, fun M => ?_⟩
      · rw [tX0_isBetween]
        have e40 : ex 40 9 [pI (Int64.toInt32 2143289344)] M = some (some (pJ 9221120237041090560), M) := by
          rw [tX0_doubleOfFloat]
          refine it_t (by decide) ?_
          rw [tX0_doubleOfFloat_11]
          exact it_t (by decide) (it_f (by decide) rfl)
        refine it_t rfl (it_f (not_not_intro rfl) (clJ_i e40 (clI_i (c_isNum _ M) ?_)))
        rw [if_neg (by decide)]
        exact zo_i (Or.inl rfl) rfl
      · rw [tX12_isBetween]
        exact it_t (by decide) (it_f (not_not_intro rfl) (it_f (not_not_intro (by decide)) (zo_i (Or.inl rfl) rfl)))
    · have hne : ¬ lg_cmp v (2143289344 : Int64) = 0 := fun z => by
        rw [cmp_eq0] at z
        subst z
        have : (Int64.toInt32 2143289344).toUInt32.toNat = 2143289344 := by decide
        rw [this] at u1
        cases sb <;> simp at u1 <;> omega
      obtain ⟨n1, n2⟩ := f2d_num u1 u3
      have n3 : N64 ((FP.f2d v.toInt32.toUInt32).toInt64) % 9223372036854775808 ≤ 9218868437227405312 := by
        show ((FP.f2d v.toInt32.toUInt32).toInt64).toUInt64.toNat % _ ≤ _
        rw [UInt64.toUInt64_toInt64]
        exact n1
      refine ⟨btD (FP.f2d v.toInt32.toUInt32) a b, fun M => ?_, fun M => ?_⟩
      · rw [tX0_isBetween]
        have := c_btD (a := a) (b := b) (M := M) n3
        rw [UInt64.toUInt64_toInt64] at this
        exact it_t rfl (it_f (not_not_intro rfl) (clJ_i (c_dof u1 u3) this))
      · rw [tX12_isBetween]
        exact it_t (by decide) (it_f (not_not_intro rfl) (it_t hne (it_f (not_not_intro rfl) (gd_i (sni_num u1 u2 u3) (gd_i n2 (m_btD n1))))))
  · by_cases h7 : s = 7
    · subst h7
      rcases shp7 hv with rfl | hn
      · refine ⟨false, fun M => ?_, fun M => ?_⟩
        · rw [tX0_isBetween]
          refine it_f h6 (it_t rfl (it_t h6 (clI_i (c_isNum _ M) ?_)))
          rw [if_neg (by decide)]
          exact zo_i (Or.inl rfl) rfl
        · rw [tX12_isBetween]
          exact it_t (by decide) (it_t h6 (it_f (not_not_intro (by decide)) (zo_i (Or.inl rfl) rfl)))
      · have hne : ¬ lg_cmp v (9221120237041090560 : Int64) = 0 := fun z => by
          rw [cmp_eq0] at z
          subst z
          exact absurd hn (by decide)
        refine ⟨btD v.toUInt64 a b, fun M => ?_, fun M => ?_⟩
        · rw [tX0_isBetween]
          exact it_f h6 (it_t rfl (it_t h6 (c_btD hn)))
        · rw [tX12_isBetween]
          exact it_t (by decide) (it_t h6 (it_t hne (it_t h6 (gd_i (snl_num hn) (m_btD hn)))))
    · have h5 : ¬ 6 ≤ s := fun z => by
        rw [I32_le] at z
        rw [I32_lt] at hs
        have e6 : (6 : Int32).toInt = 6 := rfl
        have e8 : (8 : Int32).toInt = 8 := rfl
        have : s.toInt = 6 ∨ s.toInt = 7 := by omega
        rcases this with w | w
        · exact h6 (Int32.toInt_inj.mp w)
        · exact h7 (Int32.toInt_inj.mp w)
      refine ⟨decide (¬ lg_cmp v a < 0 ∧ ¬ 0 < lg_cmp v b), fun M => ?_, fun M => ?_⟩
      · rw [tX0_isBetween]
        refine it_f h6 (it_f h7 ?_)
        by_cases q1 : lg_cmp v a < 0
        · rw [decide_eq_false (fun z => z.1 q1)]
          exact it_t q1 (zo_i (Or.inl rfl) rfl)
        · by_cases q2 : 0 < lg_cmp v b
          · rw [decide_eq_false (fun z => z.2 q2)]
            exact it_f q1 (it_t q2 (zo_i (Or.inl rfl) rfl))
          · rw [decide_eq_true ⟨q1, q2⟩]
            exact it_f q1 (it_f q2 (zo_i (Or.inr rfl) rfl))
      · rw [tX12_isBetween]
        refine it_f h5 ?_
        by_cases q1 : lg_cmp v a < 0
        · rw [decide_eq_false (fun z => z.1 q1)]
          exact it_t q1 (zo_i (Or.inl rfl) rfl)
        · by_cases q2 : 0 < lg_cmp v b
          · rw [decide_eq_false (fun z => z.2 q2)]
            exact it_f q1 (it_t q2 (zo_i (Or.inl rfl) rfl))
          · rw [decide_eq_true ⟨q1, q2⟩]
            exact it_f q1 (it_f q2 (zo_i (Or.inr rfl) rfl))
