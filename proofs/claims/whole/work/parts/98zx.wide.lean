/-! LOADING: widening -/
section OPS
variable {x : Nat} {E E' : List TE} {R R' : List TR} {F F' : List TF} {W W' : List TW} {O O' : List TO} {T T' : List TL} {S S' : TS} {jW jO jW' jO' n : Nat} {M M' M1 : Mem}
/-- a number of one sort goes to another -/
abbrev WD (i j : Nat) : Prop := 1 ≤ i ∧ i < j ∧ j ≤ 7 ∧ j ≠ 3
theorem wd_tab0 : ∀ i, i < 12 → ∀ j, j < 12 → (decide (i = j) || (decide (((wiv i >>> (nI j &&& 31)) &&& 1) = 0) == decide (¬ WD i j))) = true := by decide +kernel
theorem wd_tab (i : Nat) (hi : i < 12) (j : Nat) (hj : j < 12) (hij : i ≠ j) : (((wiv i >>> (nI j &&& 31)) &&& 1) = 0) ↔ ¬ WD i j := by
  have h := wd_tab0 i hi j hj
  rw [decide_eq_false hij, Bool.false_or, beq_iff_eq, decide_eq_decide] at h
  exact h
theorem m_goes {i j : Nat} (hi : i < 8) (hj : j < 8) (M : Mem) : ex 216 2 [pI (nI i), pI (nI j)] M = some (some (pI (if i = j ∨ WD i j then 1 else 0)), M) := by
  rw [tX12_goes]
  simp only [m_in]
  have h1 : i = 0 ∨ i = 1 ∨ i = 2 ∨ i = 3 ∨ i = 4 ∨ i = 5 ∨ i = 6 ∨ i = 7 := by omega
  have h2 : j = 0 ∨ j = 1 ∨ j = 2 ∨ j = 3 ∨ j = 4 ∨ j = 5 ∨ j = 6 ∨ j = 7 := by omega
  rcases h1 with rfl | rfl | rfl | rfl | rfl | rfl | rfl | rfl <;> rcases h2 with rfl | rfl | rfl | rfl | rfl | rfl | rfl | rfl <;> rfl
theorem m_dbits {d : UInt64} (h : d.toNat % 9223372036854775808 ≤ 9218868437227405312) (M : Mem) : ex 1 2 [pD d] M = some (some (pJ d.toInt64), M) := by
  have e0 : ex 0 2 [pD d] M = some (some (pI 0), M) := by
    have e : FP.dcmp d d = some .eq := FP.Core.dcmp_self (nn64 h)
    rw [tJxe99ae_isNaN_b9ae7, e]
    exact it_t (by decide) (zo_i (Or.inl rfl) rfl)
  rw [tJxe99ae_doubleToLongBits_ccdee]
  exact clI_i e0 (it_f (not_not_intro rfl) rfl)
theorem m_fbits {d : UInt32} (h : d.toNat % 2 ^ 31 ≤ 2139095040) (M : Mem) : ex 3 1 [pF d] M = some (some (pI d.toInt32), M) := by
  have e0 : ex 2 1 [pF d] M = some (some (pI 0), M) := by
    have e : FP.fcmp d d = some .eq := FP.Core.fcmp_self ((FP.Core.ne_nan32 d).mpr h)
    rw [tJxf58ca_isNaN_12338, e]
    exact it_t (by decide) (zo_i (Or.inl rfl) rfl)
  rw [tJxf58ca_floatToIntBits_5c35a]
  exact clI_i e0 (it_f (not_not_intro rfl) rfl)
theorem i32_back (w : Int32) : w.toInt64.toInt32 = w := by simp
theorem l2f_num (a : Int64) : ∃ sb mg, (FP.l2f a).toNat = Bool.toNat sb * 2147483648 + mg ∧ mg < 2147483648 ∧ mg ≤ 2139095040 := by
  by_cases hw : a = 0
  · subst hw
    refine ⟨false, 0, ?_, by omega, by omega⟩
    rw [show FP.l2f 0 = 0 by decide +kernel]
    rfl
  · have h0 : 0 < a.toInt.natAbs := by
      have : a.toInt ≠ 0 := fun z => hw (Int64.toInt_inj.mp (by rw [z]; rfl))
      omega
    obtain ⟨l1, l2⟩ := l2f_N rfl h0
    exact ⟨_, _, l1, by omega, by omega⟩
theorem shp6_of {b : UInt32} {mg : Nat} {sb : Bool} (h : b.toNat = sb.toNat * 2147483648 + mg) (h2 : mg < 2147483648) (h3 : mg ≤ 2139095040) : shp 6 b.toInt32.toInt64 = b.toInt32.toInt64 := by
  obtain ⟨sb', mg', u1, u2, u3, u4⟩ := u32_split b.toInt32
  have e1 : b.toInt32.toUInt32.toNat = b.toNat := by rw [UInt32.toUInt32_toInt32]
  have hm : mg' = mg := by
    rw [e1, h] at u1
    cases sb <;> cases sb' <;> simp at u1 <;> omega
  have e : shp 6 b.toInt32.toInt64 = if (b.toInt32.toInt64.toInt32 &&& 2147483647) ≤ 2139095040 then b.toInt32.toInt64.toInt32.toInt64 else 2143289344 := rfl
  rw [e, i32_back, u3, if_pos]
  rw [I32_le, nI_toInt u2, show (2139095040 : Int32).toInt = 2139095040 by decide]
  omega
theorem shp7_of {d : UInt64} (h : d.toNat % 9223372036854775808 ≤ 9218868437227405312) : shp 7 d.toInt64 = d.toInt64 := by
  have e : shp 7 d.toInt64 = if (d.toInt64 &&& 9223372036854775807) ≤ 9218868437227405312 then d.toInt64 else 9221120237041090560 := rfl
  rw [e, if_pos]
  rw [num_iff]
  show d.toInt64.toUInt64.toNat % _ ≤ _
  rw [UInt64.toUInt64_toInt64]
  exact h
theorem i8_16 (b : Int8) : b.toInt32.toInt16.toInt32 = b.toInt32 := by
  apply Int32.toInt_inj.mp
  rw [Int16.toInt_toInt32, Int32.toInt_toInt16, Int8.toInt_toInt32]
  have h1 := Int8.minValue_le_toInt b
  have h2 := Int8.toInt_le b
  rw [Int.bmod_eq_of_le]
  · have : Int8.minValue.toInt = -128 := by decide
    omega
  · have : Int8.maxValue.toInt = 127 := by decide
    omega
theorem shp_wd {i j : Nat} {v : Int64} (h : WD i j) (hj : j ≤ 5) (hv : shp (nI i) v = v) : shp (nI j) v = v := by
  obtain ⟨h1, h2, h3, h4⟩ := h
  have w4 : i ≤ 4 → ∃ w : Int32, v = w.toInt64 := fun _ => by
    have : i = 1 ∨ i = 2 ∨ i = 3 ∨ i = 4 := by omega
    rcases this with rfl | rfl | rfl | rfl
    · exact ⟨_, hv.symm⟩
    · exact ⟨_, hv.symm⟩
    · exact ⟨_, hv.symm⟩
    · exact ⟨_, hv.symm⟩
  have : j = 2 ∨ j = 4 ∨ j = 5 := by omega
  rcases this with rfl | rfl | rfl
  · have : i = 1 := by omega
    subst this
    have hv : v.toInt32.toInt8.toInt32.toInt64 = v := hv
    show v.toInt32.toInt16.toInt32.toInt64 = v
    generalize v.toInt32.toInt8 = b at hv
    rw [← hv, i32_back, i8_16]
  · obtain ⟨w, hw⟩ := w4 (by omega)
    show v.toInt32.toInt64 = v
    rw [hw, i32_back]
  · rfl
theorem wid_both {i j : Nat} {v : Int64} (hi : i < 8) (h : i = j ∨ WD i j) (hv : shp (nI i) v = v) : ∃ r, (∀ M, ex 33 4 [pI (nI i), pI (nI j), pJ v] M = some (some (pJ r), M)) ∧ (∀ M, ex 217 4 [pI (nI i), pI (nI j), pJ v] M = some (some (pJ r), M)) ∧ shp (nI j) r = r := by
  rcases h with rfl | h
  · refine ⟨v, fun M => ?_, fun M => ?_, hv⟩
    · rw [tX0_widened]; exact it_f (not_not_intro rfl) rfl
    · rw [tX12_widened]; exact it_t rfl rfl
  have hw := id h
  obtain ⟨h1, h2, h3, h4⟩ := h
  have ne : ¬ nI i = nI j := fun z => by
    have := nI_inj (by omega) (by omega) z
    omega
  by_cases j5 : j ≤ 5
  · have n6 : ¬ nI j = 6 := fun z => by have := nI_inj (b := 6) (by omega) (by omega) z; omega
    have n7 : ¬ nI j = 7 := fun z => by have := nI_inj (b := 7) (by omega) (by omega) z; omega
    have l6 : ¬ (6 : Int32) ≤ nI j := nI_ge (b := 6) (by omega) (by omega)
    refine ⟨v, fun M => ?_, fun M => ?_, shp_wd hw j5 hv⟩
    · rw [tX0_widened]; exact it_t ne (it_t n6 (it_t n7 rfl))
    · rw [tX12_widened]; exact it_f ne (it_f l6 rfl)
  have l6 : (6 : Int32) ≤ nI j := nI_le (a := 6) (by omega) (by omega)
  by_cases j6 : j = 6
  · subst j6
    have n6 : ¬ nI i = 6 := fun z => by have := nI_inj (b := 6) (by omega) (by omega) z; omega
    obtain ⟨sb, mg, u1, u2, u3⟩ := l2f_num v
    refine ⟨(FP.l2f v).toInt32.toInt64, fun M => ?_, fun M => ?_, shp6_of u1 u2 u3⟩
    · rw [tX0_widened]; exact it_t ne (it_f (not_not_intro rfl) (clJ_i (c_fow v M) rfl))
    · rw [tX12_widened]
      refine it_f ne (it_t l6 (it_t n6 (it_f (not_not_intro rfl) (clI_i (m_fbits ?_ M) rfl))))
      rw [u1, show (2 : Nat) ^ 31 = 2147483648 by decide, Nat.add_comm, Nat.add_mul_mod_self_right, Nat.mod_eq_of_lt u2]
      exact u3
  have j7 : j = 7 := by omega
  subst j7
  have nj6 : ¬ nI 7 = 6 := by decide
  by_cases i6 : i = 6
  · subst i6
    have hv : shp 6 v = v := hv
    rcases shp6 hv with rfl | ⟨sb, mg, u1, u2, u3⟩
    · refine ⟨9221120237041090560, fun M => ?_, fun M => ?_, by decide⟩
      · have e40 : ex 40 9 [pI (Int64.toInt32 2143289344)] M = some (some (pJ 9221120237041090560), M) := by
          rw [tX0_doubleOfFloat]
          refine it_t (by decide) ?_
          rw [tX0_doubleOfFloat_11]
          exact it_t (by decide) (it_f (by decide) rfl)
        rw [tX0_widened]
        exact it_t ne (it_t nj6 (it_f (not_not_intro rfl) (it_f (not_not_intro rfl) (clJ_i e40 rfl))))
      · rw [tX12_widened]
        exact it_f ne (it_t l6 (it_f (not_not_intro rfl) (it_f (not_not_intro (by decide)) rfl)))
    · have hne : ¬ lg_cmp v (2143289344 : Int64) = 0 := fun z => by
        rw [cmp_eq0] at z
        subst z
        have : (Int64.toInt32 2143289344).toUInt32.toNat = 2143289344 := by decide
        rw [this] at u1
        cases sb <;> simp at u1 <;> omega
      obtain ⟨n1, n2⟩ := f2d_num u1 u3
      refine ⟨(FP.f2d v.toInt32.toUInt32).toInt64, fun M => ?_, fun M => ?_, shp7_of n1⟩
      · rw [tX0_widened]
        exact it_t ne (it_t nj6 (it_f (not_not_intro rfl) (it_f (not_not_intro rfl) (clJ_i (c_dof u1 u3) rfl))))
      · rw [tX12_widened]
        exact it_f ne (it_t l6 (it_f (not_not_intro rfl) (it_t hne (gd_i (sni_num u1 u2 u3) (gd_i n2 (clJ_i (m_dbits n1 M) rfl))))))
  · have n6 : ¬ nI i = 6 := fun z => i6 (nI_inj (b := 6) (by omega) (by omega) z)
    refine ⟨(FP.l2d v).toInt64, fun M => ?_, fun M => ?_, shp7_of (l2d_num v)⟩
    · rw [tX0_widened]
      exact it_t ne (it_t nj6 (it_f (not_not_intro rfl) (it_t n6 (clJ_i (c_dow v M) rfl))))
    · rw [tX12_widened]
      exact it_f ne (it_t l6 (it_t n6 (it_t nj6 (clJ_i (m_dbits (l2d_num v) M) rfl))))
/-- what was kept goes to a part -/
def gsP (t : TQ) (s : TP) : Prop := if t.2.1 = s.2.1 then (t.2.1 < 8 ∨ t.2.1 = 11 ∨ t.2.2.1 = s.2.2.1) else if t.2.1 = 8 ∧ s.2.1 = 9 then t.2.2.1 = s.2.2.1 else WD t.2.1.toNatClampNeg s.2.1.toNatClampNeg
theorem srt_n {s : Int32} (h : 0 ≤ s ∧ s ≤ 11) : ∃ i, i < 12 ∧ s = nI i := nI_in' (by omega) (fun z => by
    have := h.1
    rw [I32_lt] at z
    rw [I32_le] at this
    omega) (by
    have := h.2
    rw [I32_le] at this
    rw [I32_lt]
    have e3 : (nI 12).toInt = 12 := rfl
    have e2 : (11 : Int32).toInt = 11 := rfl
    omega)
theorem c_goesTo {t : TQ} {s : TP} {kq ka : Nat} (hB : XB x M) (hq : cQ x M t kq) (hp : cP M s ka) (ht : 0 ≤ t.2.1 ∧ t.2.1 ≤ 11) (hs : 0 ≤ s.2.1 ∧ s.2.1 ≤ 11) : (gsP t s → ex 58 3 [pR (some kq), pR (some ka)] M = some (some (pI 1), M)) ∧ (¬ gsP t s → ex 58 3 [pR (some kq), pR (some ka)] M = some (some (pI 0), M)) := by
  obtain ⟨q1, q2, q3, q4, -⟩ := hq
  obtain ⟨p1, p2, p3, p4, -⟩ := hp
  obtain ⟨-, -, -, -, ⟨wi, w1, w2, w3, w4, w5⟩, -⟩ := id hB
  obtain ⟨i, hi, ei⟩ := srt_n ht
  obtain ⟨j, hj, ej⟩ := srt_n hs
  rw [tX5_goesTo]
  unfold gsP
  by_cases h : t.2.1 = s.2.1
  · rw [if_pos h]
    by_cases h8 : t.2.1 < 8
    · exact ⟨fun _ => rd_i rfl q1 (rd_i rfl p1 (it_t (by rw [q3, p3]; exact h) (it_t (by decide) (rd_i rfl q1 (it_t (by rw [q3]; exact h8) (zo_i (Or.inr rfl) rfl)))))), fun z => absurd (Or.inl h8) z⟩
    · by_cases h11 : t.2.1 = 11
      · exact ⟨fun _ => rd_i rfl q1 (rd_i rfl p1 (it_t (by rw [q3, p3]; exact h) (it_t (by decide) (rd_i rfl q1 (it_f (by rw [q3]; exact h8) (rd_i rfl q1 (it_t (by rw [q3]; exact h11) (zo_i (Or.inr rfl) rfl)))))))), fun z => absurd (Or.inr (Or.inl h11)) z⟩
      · have g8 : (8 : Int32) ≤ t.2.1 := ge8.mpr h8
        have o1 := q4 g8
        have o2 := p4 (by rw [← h]; exact g8)
        refine ⟨fun z => rd_i rfl q1 (rd_i rfl p1 (it_t (by rw [q3, p3]; exact h) (it_t (by decide) (rd_i rfl q1 (it_f (by rw [q3]; exact h8) (rd_i rfl q1 (it_f (by rw [q3]; exact h11) (rd_i rfl q1 (rd_i rfl p1 (it_f (not_not_intro ?_) (zo_i (Or.inr rfl) rfl))))))))))), fun z => rd_i rfl q1 (rd_i rfl p1 (it_t (by rw [q3, p3]; exact h) (it_t (by decide) (rd_i rfl q1 (it_f (by rw [q3]; exact h8) (rd_i rfl q1 (it_f (by rw [q3]; exact h11) (rd_i rfl q1 (rd_i rfl p1 (it_t (fun w => z ?_) (zo_i (Or.inl rfl) rfl)))))))))))⟩
        · rw [o1, o2]
          exact (z.resolve_left h8).resolve_left h11
        · rw [o1, o2] at w
          exact Or.inr (Or.inr w)
  · rw [if_neg h]
    have hne : ¬ gI M 321 kq = gI M 513 ka := by rw [q3, p3]; exact h
    have bit : ∀ {rr : Option Rt}, (if ((wiv i >>> (nI j &&& 31)) &&& 1) = 0 then zo 0 (some (some (pI 0), M)) else zo 1 (some (some (pI 1), M))) = rr → (rd (some kq) 5 M fun a16 => ix 20 30 (sR M 1) (gI M 321 a16) M fun a17 j18 => rd (some ka) 8 M fun a19 => if (((aI M a17 j18) >>> (gI M 513 a19 &&& 31)) &&& 1) = 0 then zo 0 (some (some (pI 0), M)) else zo 1 (some (some (pI 1), M))) = rr := fun {rr} hr => by
      refine rd_i rfl q1 (ix_i (n := i) w1 (Or.inr w3) (by rw [q3]; exact ei) (by rw [w4]; exact hi) (by omega) (rd_i rfl p1 ?_))
      rw [w5, p3, ej]
      exact hr
    have hij : i ≠ j := fun z => h (by rw [ei, ej, z])
    have wt := wd_tab i hi j hj hij
    by_cases h8 : t.2.1 = 8
    · by_cases h9 : s.2.1 = 9
      · rw [if_pos ⟨h8, h9⟩]
        have g8 : (8 : Int32) ≤ t.2.1 := by rw [h8]; decide
        have n8 : ¬ t.2.1 < 8 := by rw [h8]; decide
        have n11 : ¬ t.2.1 = 11 := by rw [h8]; decide
        have o1 := q4 g8
        have o2 := p4 (by rw [h9]; decide)
        refine ⟨fun z => rd_i rfl q1 (rd_i rfl p1 (it_f hne (rd_i rfl q1 (it_f (not_not_intro (q3.trans h8)) (rd_i rfl p1 (it_f (not_not_intro (p3.trans h9)) (it_t (by decide) (rd_i rfl q1 (it_f (by rw [q3]; exact n8) (rd_i rfl q1 (it_f (by rw [q3]; exact n11) (rd_i rfl q1 (rd_i rfl p1 (it_f (not_not_intro (by rw [o1, o2]; exact z)) (zo_i (Or.inr rfl) rfl))))))))))))))), fun z => rd_i rfl q1 (rd_i rfl p1 (it_f hne (rd_i rfl q1 (it_f (not_not_intro (q3.trans h8)) (rd_i rfl p1 (it_f (not_not_intro (p3.trans h9)) (it_t (by decide) (rd_i rfl q1 (it_f (by rw [q3]; exact n8) (rd_i rfl q1 (it_f (by rw [q3]; exact n11) (rd_i rfl q1 (rd_i rfl p1 (it_t (by rw [o1, o2]; exact z) (zo_i (Or.inl rfl) rfl)))))))))))))))⟩
      · rw [if_neg (fun z => h9 z.2), ei, ej, nI_clamp (by omega), nI_clamp (by omega)]
        refine ⟨fun z => rd_i rfl q1 (rd_i rfl p1 (it_f hne (rd_i rfl q1 (it_f (not_not_intro (q3.trans h8)) (rd_i rfl p1 (it_t (fun w => h9 (p3.symm.trans w)) (it_f (not_not_intro rfl) (bit (it_f (fun w => wt.mp w z) (zo_i (Or.inr rfl) rfl)))))))))), fun z => rd_i rfl q1 (rd_i rfl p1 (it_f hne (rd_i rfl q1 (it_f (not_not_intro (q3.trans h8)) (rd_i rfl p1 (it_t (fun w => h9 (p3.symm.trans w)) (it_f (not_not_intro rfl) (bit (it_t (wt.mpr z) (zo_i (Or.inl rfl) rfl))))))))))⟩
    · rw [if_neg (fun z => h8 z.1), ei, ej, nI_clamp (by omega), nI_clamp (by omega)]
      refine ⟨fun z => rd_i rfl q1 (rd_i rfl p1 (it_f hne (rd_i rfl q1 (it_t (fun w => h8 (q3.symm.trans w)) (it_f (not_not_intro rfl) (bit (it_f (fun w => wt.mp w z) (zo_i (Or.inr rfl) rfl)))))))), fun z => rd_i rfl q1 (rd_i rfl p1 (it_f hne (rd_i rfl q1 (it_t (fun w => h8 (q3.symm.trans w)) (it_f (not_not_intro rfl) (bit (it_t (wt.mpr z) (zo_i (Or.inl rfl) rfl))))))))⟩
end OPS
