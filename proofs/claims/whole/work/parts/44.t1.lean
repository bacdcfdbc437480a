/-! the methods as pure terms: printed by wip/whole/gen/gen_t.py -/
set_option maxRecDepth 100000 in
set_option maxHeartbeats 4000000 in
theorem tJxe99ae_isNaN_b9ae7 (p0 : UInt64) (M : Mem) : ex 0 2 [pD p0] M =
    if Op.cmpValue (FP.dcmp p0 p0) .l = 0 then
      zo 0 (some (some (pI 0), M))
    else
      zo 1 (some (some (pI 1), M)) := (rn_un PP [] 0 8 0 _ [] M).trans rfl
set_option maxRecDepth 100000 in
set_option maxHeartbeats 4000000 in
theorem tJxe99ae_doubleToLongBits_ccdee (p0 : UInt64) (M : Mem) : ex 1 2 [pD p0] M =
    clI (ex 0 2 [pD p0] M) fun r2 M1 =>
    if ¬ r2 = 0 then
      some (some (pJ (9221120237041090560 : Int64)), M1)
    else
      some (some (pJ p0.toInt64), M1) := (rn_un PP [] 1 7 0 _ [] M).trans rfl
set_option maxRecDepth 100000 in
set_option maxHeartbeats 4000000 in
theorem tJxf58ca_isNaN_12338 (p0 : UInt32) (M : Mem) : ex 2 1 [pF p0] M =
    if Op.cmpValue (FP.fcmp p0 p0) .l = 0 then
      zo 0 (some (some (pI 0), M))
    else
      zo 1 (some (some (pI 1), M)) := (rn_un PP [] 2 8 0 _ [] M).trans rfl
set_option maxRecDepth 100000 in
set_option maxHeartbeats 4000000 in
theorem tJxf58ca_floatToIntBits_5c35a (p0 : UInt32) (M : Mem) : ex 3 1 [pF p0] M =
    clI (ex 2 1 [pF p0] M) fun r2 M1 =>
    if ¬ r2 = 0 then
      some (some (pI 2143289344), M1)
    else
      some (some (pI p0.toInt32), M1) := (rn_un PP [] 3 7 0 _ [] M).trans rfl
set_option maxRecDepth 100000 in
set_option maxHeartbeats 4000000 in
theorem tJ6_numberOfLeadingZeros_0f7a4 (p0 : Int32) (M : Mem) : ex 4 2 [pI p0] M =
    if 0 < p0 then
      if p0 < 65536 then
        rn PP 4 33 [some (pI p0), some (pI 31)] [] M
      else
        rn PP 4 33 [some (pI ((p0.toUInt32 >>> ((16 : Int32).toUInt32 &&& Int32.toUInt32 31)).toInt32)), some (pI (31 + (-16)))] [] M
    else
      if ¬ p0 = 0 then
        rn PP 4 14 [none, none] [pI 0] M
      else
        rn PP 4 14 [none, none] [pI 32] M := (rn_un PP [14, 33, 48, 61, 73] 4 14 0 _ [] M).trans rfl
set_option maxRecDepth 100000 in
set_option maxHeartbeats 4000000 in
theorem tJ6_numberOfLeadingZeros_0f7a4_14 (s0 : Int32) (M : Mem) : rn PP 4 14 [none, none] [pI s0] M =
    some (some (pI s0), M) := (rn_un PP [14, 33, 48, 61, 73] 4 2 14 _ _ M).trans rfl
set_option maxRecDepth 100000 in
set_option maxHeartbeats 4000000 in
theorem tJ6_numberOfLeadingZeros_0f7a4_33 (l0 : Int32) (l1 : Int32) (M : Mem) : rn PP 4 33 [some (pI l0), some (pI l1)] [] M =
    if l0 < 256 then
      rn PP 4 48 [some (pI l0), some (pI l1)] [] M
    else
      rn PP 4 48 [some (pI ((l0.toUInt32 >>> ((8 : Int32).toUInt32 &&& Int32.toUInt32 31)).toInt32)), some (pI (l1 + (-8)))] [] M := (rn_un PP [14, 33, 48, 61, 73] 4 10 33 _ _ M).trans rfl
set_option maxRecDepth 100000 in
set_option maxHeartbeats 4000000 in
theorem tJ6_numberOfLeadingZeros_0f7a4_48 (l0 : Int32) (l1 : Int32) (M : Mem) : rn PP 4 48 [some (pI l0), some (pI l1)] [] M =
    if l0 < 16 then
      rn PP 4 61 [some (pI l0), some (pI l1)] [] M
    else
      rn PP 4 61 [some (pI ((l0.toUInt32 >>> ((4 : Int32).toUInt32 &&& Int32.toUInt32 31)).toInt32)), some (pI (l1 + (-4)))] [] M := (rn_un PP [14, 33, 48, 61, 73] 4 10 48 _ _ M).trans rfl
set_option maxRecDepth 100000 in
set_option maxHeartbeats 4000000 in
theorem tJ6_numberOfLeadingZeros_0f7a4_61 (l0 : Int32) (l1 : Int32) (M : Mem) : rn PP 4 61 [some (pI l0), some (pI l1)] [] M =
    if l0 < 4 then
      rn PP 4 73 [some (pI l0), some (pI l1)] [] M
    else
      rn PP 4 73 [some (pI ((l0.toUInt32 >>> ((2 : Int32).toUInt32 &&& Int32.toUInt32 31)).toInt32)), some (pI (l1 + (-2)))] [] M := (rn_un PP [14, 33, 48, 61, 73] 4 10 61 _ _ M).trans rfl
set_option maxRecDepth 100000 in
set_option maxHeartbeats 4000000 in
theorem tJ6_numberOfLeadingZeros_0f7a4_73 (l0 : Int32) (l1 : Int32) (M : Mem) : rn PP 4 73 [some (pI l0), some (pI l1)] [] M =
    some (some (pI (l1 - (l0.toUInt32 >>> ((1 : Int32).toUInt32 &&& Int32.toUInt32 31)).toInt32)), M) := (rn_un PP [14, 33, 48, 61, 73] 4 7 73 _ _ M).trans rfl
set_option maxRecDepth 100000 in
set_option maxHeartbeats 4000000 in
theorem tJ13_numberOfLeadingZeros_95d88 (p0 : Int64) (M : Mem) : ex 5 3 [pJ p0] M =
    if ¬ ((p0.toUInt64 >>> ((32 : Int32).toInt64.toUInt64 &&& Int64.toUInt64 63)).toInt64).toInt32 = 0 then
      clI (ex 4 2 [pI (((p0.toUInt64 >>> ((32 : Int32).toInt64.toUInt64 &&& Int64.toUInt64 63)).toInt64).toInt32)] M) fun r2 M1 =>
      some (some (pI r2), M1)
    else
      clI (ex 4 2 [pI p0.toInt32] M) fun r4 M3 =>
      some (some (pI (32 + r4)), M3) := (rn_un PP [] 5 15 0 _ [] M).trans rfl
set_option maxRecDepth 100000 in
set_option maxHeartbeats 4000000 in
theorem tJ13_bitCount_95d88 (p0 : Int64) (M : Mem) : ex 6 2 [pJ p0] M =
    rn PP 6 10 [some (pJ (p0 - ((p0.toUInt64 >>> ((1 : Int32).toInt64.toUInt64 &&& Int64.toUInt64 63)).toInt64 &&& (6148914691236517205 : Int64)))), none] [] M := (rn_un PP [10, 24, 34, 41, 48, 55, 57] 6 10 0 _ [] M).trans rfl
set_option maxRecDepth 100000 in
set_option maxHeartbeats 4000000 in
theorem tJ13_bitCount_95d88_10 (l0 : Int64) (M : Mem) : rn PP 6 10 [some (pJ l0), none] [] M =
    rn PP 6 24 [some (pJ ((l0 &&& (3689348814741910323 : Int64)) + ((l0.toUInt64 >>> ((2 : Int32).toInt64.toUInt64 &&& Int64.toUInt64 63)).toInt64 &&& (3689348814741910323 : Int64)))), none] [] M := (rn_un PP [10, 24, 34, 41, 48, 55, 57] 6 12 10 _ _ M).trans rfl
set_option maxRecDepth 100000 in
set_option maxHeartbeats 4000000 in
theorem tJ13_bitCount_95d88_24 (l0 : Int64) (M : Mem) : rn PP 6 24 [some (pJ l0), none] [] M =
    rn PP 6 34 [some (pJ ((l0 + (l0.toUInt64 >>> ((4 : Int32).toInt64.toUInt64 &&& Int64.toUInt64 63)).toInt64) &&& (1085102592571150095 : Int64))), none] [] M := (rn_un PP [10, 24, 34, 41, 48, 55, 57] 6 10 24 _ _ M).trans rfl
set_option maxRecDepth 100000 in
set_option maxHeartbeats 4000000 in
theorem tJ13_bitCount_95d88_34 (l0 : Int64) (M : Mem) : rn PP 6 34 [some (pJ l0), none] [] M =
    rn PP 6 41 [some (pJ (l0 + (l0.toUInt64 >>> ((8 : Int32).toInt64.toUInt64 &&& Int64.toUInt64 63)).toInt64)), none] [] M := (rn_un PP [10, 24, 34, 41, 48, 55, 57] 6 8 34 _ _ M).trans rfl
set_option maxRecDepth 100000 in
set_option maxHeartbeats 4000000 in
theorem tJ13_bitCount_95d88_41 (l0 : Int64) (M : Mem) : rn PP 6 41 [some (pJ l0), none] [] M =
    rn PP 6 48 [some (pJ (l0 + (l0.toUInt64 >>> ((16 : Int32).toInt64.toUInt64 &&& Int64.toUInt64 63)).toInt64)), none] [] M := (rn_un PP [10, 24, 34, 41, 48, 55, 57] 6 8 41 _ _ M).trans rfl
set_option maxRecDepth 100000 in
set_option maxHeartbeats 4000000 in
theorem tJ13_bitCount_95d88_48 (l0 : Int64) (M : Mem) : rn PP 6 48 [some (pJ l0), none] [] M =
    rn PP 6 55 [some (pJ (l0 + (l0.toUInt64 >>> ((32 : Int32).toInt64.toUInt64 &&& Int64.toUInt64 63)).toInt64)), none] [] M := (rn_un PP [10, 24, 34, 41, 48, 55, 57] 6 8 48 _ _ M).trans rfl
set_option maxRecDepth 100000 in
set_option maxHeartbeats 4000000 in
theorem tJ13_bitCount_95d88_55 (l0 : Int64) (M : Mem) : rn PP 6 55 [some (pJ l0), none] [] M =
    rn PP 6 57 [none, none] [pI l0.toInt32] M := (rn_un PP [10, 24, 34, 41, 48, 55, 57] 6 4 55 _ _ M).trans rfl
set_option maxRecDepth 100000 in
set_option maxHeartbeats 4000000 in
theorem tJ13_bitCount_95d88_57 (s0 : Int32) (M : Mem) : rn PP 6 57 [none, none] [pI s0] M =
    some (some (pI (s0 &&& 127)), M) := (rn_un PP [10, 24, 34, 41, 48, 55, 57] 6 4 57 _ _ M).trans rfl
set_option maxRecDepth 100000 in
set_option maxHeartbeats 4000000 in
theorem tJ9_max_7cf53 (p0 : Int32) (p1 : Int32) (M : Mem) : ex 7 2 [pI p0, pI p1] M =
    if p0 < p1 then
      some (some (pI p1), M)
    else
      some (some (pI p0), M) := (rn_un PP [] 7 7 0 _ [] M).trans rfl
set_option maxRecDepth 100000 in
set_option maxHeartbeats 4000000 in
theorem tJ9_min_7cf53 (p0 : Int32) (p1 : Int32) (M : Mem) : ex 8 2 [pI p0, pI p1] M =
    if p1 < p0 then
      some (some (pI p1), M)
    else
      some (some (pI p0), M) := (rn_un PP [] 8 7 0 _ [] M).trans rfl
set_option maxRecDepth 100000 in
set_option maxHeartbeats 4000000 in
theorem tJxa1e45_init_da8c8 (r0 : Option Nat) (M : Mem) : ex 9 1 [pR r0] M =
    nn r0
    (some (none, M)) := (rn_un PP [] 9 4 0 _ [] M).trans rfl
set_option maxRecDepth 100000 in
set_option maxHeartbeats 4000000 in
theorem tJxc12de_init_da8c8 (r0 : Option Nat) (M : Mem) : ex 10 1 [pR r0] M =
    rd r0 0 M fun a2 =>
    clV (ex 9 1 [pR (some a2)] M) fun M1 =>
    rd r0 0 M1 fun a3 =>
    bd (sI M1 0 a3 0) fun M4 =>
    some (none, M4) := (rn_un PP [] 10 7 0 _ [] M).trans rfl
set_option maxRecDepth 100000 in
set_option maxHeartbeats 4000000 in
theorem tJx4a65c_init_da8c8 (r0 : Option Nat) (M : Mem) : ex 11 1 [pR r0] M =
    rd r0 0 M fun a2 =>
    clV (ex 10 1 [pR (some a2)] M) fun M1 =>
    rd r0 0 M1 fun a3 =>
    bd (sF M1 1 a3 (sR M1 3)) fun M4 =>
    some (none, M4) := (rn_un PP [] 11 7 0 _ [] M).trans rfl
set_option maxRecDepth 100000 in
set_option maxHeartbeats 4000000 in
theorem tJx4a65c_grow_92f84 (r0 : Option Nat) (p0 : Int32) (M : Mem) : ex 12 4 [pR r0, pI p0] M =
    rd r0 0 M fun a1 =>
    al (gR M 1 a1) M fun a2 =>
    if 0 < nI (ln M a2) then
      clI (ex 27 4 [pI (nI (ln M a2)), pI (p0 - nI (ln M a2)), pI ((nI (ln M a2)) >>> (1 &&& 31))] M) fun r4 M3 =>
      rd r0 0 M3 fun a5 =>
      clR (ex 23 2 [pR (gR M3 1 a5), pI r4] M3) fun r7 M6 =>
      rd r0 0 M6 fun a8 =>
      bd (sF M6 1 a8 r7) fun M9 =>
      some (some (pR r7), M9)
    else
      rd r0 0 M fun a10 =>
      if gR M 1 a10 = sR M 3 then
        clI (ex 7 2 [pI 10, pI p0] M) fun r12 M11 =>
        gd (¬ r12 < 0 ∧ r12.toNatClampNeg ≤ 60000000)
        (bd (nA M11 23 r12.toNatClampNeg) fun M13 =>
        rd r0 0 M13 fun a14 =>
        bd (sF M13 1 a14 (some (mT M11))) fun M15 =>
        some (some (pR (some (mT M11))), M15))
      else
        clI (ex 27 4 [pI (nI (ln M a2)), pI (p0 - nI (ln M a2)), pI ((nI (ln M a2)) >>> (1 &&& 31))] M) fun r17 M16 =>
        rd r0 0 M16 fun a18 =>
        clR (ex 23 2 [pR (gR M16 1 a18), pI r17] M16) fun r20 M19 =>
        rd r0 0 M19 fun a21 =>
        bd (sF M19 1 a21 r20) fun M22 =>
        some (some (pR r20), M22) := (rn_un PP [] 12 28 0 _ [] M).trans rfl
set_option maxRecDepth 100000 in
set_option maxHeartbeats 4000000 in
theorem tJx4a65c_grow_d5877 (r0 : Option Nat) (M : Mem) : ex 13 1 [pR r0] M =
    rd r0 0 M fun a1 =>
    rd r0 0 M fun a3 =>
    clR (ex 12 4 [pR (some a3), pI (gI M 2 a1 + 1)] M) fun r4 M2 =>
    some (some (pR r4), M2) := (rn_un PP [] 13 8 0 _ [] M).trans rfl
set_option maxRecDepth 100000 in
set_option maxHeartbeats 4000000 in
theorem tJx4a65c_size_8abf5 (r0 : Option Nat) (M : Mem) : ex 14 1 [pR r0] M =
    rd r0 0 M fun a1 =>
    some (some (pI (gI M 2 a1)), M) := (rn_un PP [] 14 4 0 _ [] M).trans rfl
set_option maxRecDepth 100000 in
set_option maxHeartbeats 4000000 in
theorem tJx4a65c_elementData_915e3 (r0 : Option Nat) (p0 : Int32) (M : Mem) : ex 15 2 [pR r0, pI p0] M =
    rd r0 0 M fun a1 =>
    ix 23 24 (gR M 1 a1) p0 M fun a2 j3 =>
    some (some (pR (aR M a2 j3)), M) := (rn_un PP [] 15 6 0 _ [] M).trans rfl
set_option maxRecDepth 100000 in
set_option maxHeartbeats 4000000 in
theorem tJx4a65c_get_915e3 (r0 : Option Nat) (p0 : Int32) (M : Mem) : ex 16 2 [pR r0, pI p0] M =
    rd r0 0 M fun a1 =>
    clI (ex 26 2 [pI p0, pI (gI M 2 a1)] M) fun r3 M2 =>
    rd r0 0 M2 fun a5 =>
    clR (ex 15 2 [pR (some a5), pI p0] M2) fun r6 M4 =>
    some (some (pR r6), M4) := (rn_un PP [] 16 10 0 _ [] M).trans rfl
set_option maxRecDepth 100000 in
set_option maxHeartbeats 4000000 in
theorem tJx4a65c_set_bcc79 (r0 : Option Nat) (p0 : Int32) (p1 : Option Nat) (M : Mem) : ex 17 4 [pR r0, pI p0, pR p1] M =
    rd r0 0 M fun a1 =>
    clI (ex 26 2 [pI p0, pI (gI M 2 a1)] M) fun r3 M2 =>
    rd r0 0 M2 fun a5 =>
    clR (ex 15 2 [pR (some a5), pI p0] M2) fun r6 M4 =>
    rd r0 0 M4 fun a7 =>
    ix 23 24 (gR M4 1 a7) p0 M4 fun a8 j9 =>
    @ite _ (okSt M4 a8 p1) (okStD M4 a8 p1) (bd (wR M4 a8 j9 p1) fun M10 =>
    some (some (pR r6), M10)) none := (rn_un PP [] 17 17 0 _ [] M).trans rfl
set_option maxRecDepth 100000 in
set_option maxHeartbeats 4000000 in
theorem tJx4a65c_add_72be8 (r0 : Option Nat) (p0 : Option Nat) (p1 : Option Nat) (p2 : Int32) (M : Mem) : ex 18 4 [pR r0, pR p0, pR p1, pI p2] M =
    al p1 M fun a1 =>
    if ¬ p2 = nI (ln M a1) then
      ix 23 24 p1 p2 M fun a2 j3 =>
      @ite _ (okSt M a2 p0) (okStD M a2 p0) (bd (wR M a2 j3 p0) fun M4 =>
      rd r0 0 M4 fun a5 =>
      bd (sI M4 2 a5 (p2 + 1)) fun M6 =>
      some (none, M6)) none
    else
      rd r0 0 M fun a8 =>
      clR (ex 13 1 [pR (some a8)] M) fun r9 M7 =>
      ix 23 24 r9 p2 M7 fun a10 j11 =>
      @ite _ (okSt M7 a10 p0) (okStD M7 a10 p0) (bd (wR M7 a10 j11 p0) fun M12 =>
      rd r0 0 M12 fun a13 =>
      bd (sI M12 2 a13 (p2 + 1)) fun M14 =>
      some (none, M14)) none := (rn_un PP [] 18 18 0 _ [] M).trans rfl
set_option maxRecDepth 100000 in
set_option maxHeartbeats 4000000 in
theorem tJx4a65c_add_9ea2d (r0 : Option Nat) (p0 : Option Nat) (M : Mem) : ex 19 2 [pR r0, pR p0] M =
    rd r0 0 M fun a1 =>
    rd r0 0 M fun a2 =>
    bd (sI M 0 a2 (gI M 0 a1 + 1)) fun M3 =>
    rd r0 0 M3 fun a4 =>
    rd r0 0 M3 fun a5 =>
    rd r0 0 M3 fun a7 =>
    clV (ex 18 4 [pR (some a7), pR p0, pR (gR M3 1 a4), pI (gI M3 2 a5)] M3) fun M6 =>
    zo 1 (some (some (pI 1), M6)) := (rn_un PP [] 19 16 0 _ [] M).trans rfl
set_option maxRecDepth 100000 in
set_option maxHeartbeats 4000000 in
theorem tJx4a65c_remove_915e3 (r0 : Option Nat) (p0 : Int32) (M : Mem) : ex 20 4 [pR r0, pI p0] M =
    rd r0 0 M fun a1 =>
    clI (ex 26 2 [pI p0, pI (gI M 2 a1)] M) fun r3 M2 =>
    rd r0 0 M2 fun a4 =>
    ix 23 24 (gR M2 1 a4) p0 M2 fun a5 j6 =>
    rd r0 0 M2 fun a8 =>
    clV (ex 21 4 [pR (some a8), pR (gR M2 1 a4), pI p0] M2) fun M7 =>
    some (some (pR (aR M2 a5 j6)), M7) := (rn_un PP [] 20 19 0 _ [] M).trans rfl
set_option maxRecDepth 100000 in
set_option maxHeartbeats 4000000 in
theorem tJx4a65c_fastRemove_b59b0 (r0 : Option Nat) (p0 : Option Nat) (p1 : Int32) (M : Mem) : ex 21 4 [pR r0, pR p0, pI p1] M =
    rd r0 0 M fun a1 =>
    rd r0 0 M fun a2 =>
    bd (sI M 0 a2 (gI M 0 a1 + 1)) fun M3 =>
    rd r0 0 M3 fun a4 =>
    if (gI M3 2 a4 - 1) ≤ p1 then
      rd r0 0 M3 fun a5 =>
      bd (sI M3 2 a5 (gI M3 2 a4 - 1)) fun M6 =>
      ix 23 24 p0 (gI M3 2 a4 - 1) M6 fun a7 j8 =>
      @ite _ (okSt M6 a7 (none : Option Nat)) (okStD M6 a7 (none : Option Nat)) (bd (wR M6 a7 j8 (none : Option Nat)) fun M9 =>
      some (none, M9)) none
    else
      cpR p0 (p1 + 1) p0 p1 ((gI M3 2 a4 - 1) - p1) M3 fun M10 =>
      rd r0 0 M10 fun a11 =>
      bd (sI M10 2 a11 (gI M3 2 a4 - 1)) fun M12 =>
      ix 23 24 p0 (gI M3 2 a4 - 1) M12 fun a13 j14 =>
      @ite _ (okSt M12 a13 (none : Option Nat)) (okStD M12 a13 (none : Option Nat)) (bd (wR M12 a13 j14 (none : Option Nat)) fun M15 =>
      some (none, M15)) none := (rn_un PP [] 21 33 0 _ [] M).trans rfl
set_option maxRecDepth 100000 in
set_option maxHeartbeats 4000000 in
theorem tJ7_fill_d0a16 (p0 : Option Nat) (p1 : Int64) (M : Mem) : ex 22 5 [pR p0, pJ p1] M =
    al p0 M fun a1 =>
    rn PP 22 6 [some (pR p0), some (pJ p1), none, some (pI 0), some (pI (nI (ln M a1)))] [] M := (rn_un PP [6] 22 7 0 _ [] M).trans rfl
set_option maxRecDepth 100000 in
set_option maxHeartbeats 4000000 in
theorem tJ7_fill_d0a16_6 (l0 : Option Nat) (l1 : Int64) (l3 : Int32) (l4 : Int32) (M : Mem) : rn PP 22 6 [some (pR l0), some (pJ l1), none, some (pI l3), some (pI l4)] [] M =
    if l4 ≤ l3 then
      some (none, M)
    else
      ix 21 21 l0 l3 M fun a1 j2 =>
      bd (wJ M a1 j2 l1) fun M3 =>
      rn PP 22 6 [some (pR l0), some (pJ l1), none, some (pI (l3 + 1)), some (pI l4)] [] M3 := (rn_un PP [6] 22 11 6 _ _ M).trans rfl
set_option maxRecDepth 100000 in
set_option maxHeartbeats 4000000 in
theorem tJ7_copyOf_1904c (p0 : Option Nat) (p1 : Int32) (M : Mem) : ex 23 2 [pR p0, pI p1] M =
    rd p0 23 M fun a1 =>
    clR (ex 24 4 [pR p0, pI p1, pR (sR M 5)] M) fun r3 M2 =>
    some (some (pR r3), M2) := (rn_un PP [] 23 7 0 _ [] M).trans rfl
set_option maxRecDepth 100000 in
set_option maxHeartbeats 4000000 in
theorem tJ7_copyOf_6403c (p0 : Option Nat) (p1 : Int32) (p2 : Option Nat) (M : Mem) : ex 24 4 [pR p0, pI p1, pR p2] M =
    if p2 = sR M 5 then
      gd (¬ p1 < 0 ∧ p1.toNatClampNeg ≤ 60000000)
      (bd (nA M 23 p1.toNatClampNeg) fun M1 =>
      al p0 M1 fun a2 =>
      clI (ex 8 2 [pI (nI (ln M1 a2)), pI p1] M1) fun r4 M3 =>
      cpR p0 0 (some (mT M)) 0 r4 M3 fun M5 =>
      some (some (pR (some (mT M))), M5))
    else
      none := (rn_un PP [] 24 19 0 _ [] M).trans rfl
set_option maxRecDepth 100000 in
set_option maxHeartbeats 4000000 in
theorem tJ7_copyOf_c38d5 (p0 : Option Nat) (p1 : Int32) (M : Mem) : ex 25 3 [pR p0, pI p1] M =
    al p0 M fun a1 =>
    if ¬ p1 = nI (ln M a1) then
      gd (¬ p1 < 0 ∧ p1.toNatClampNeg ≤ 60000000)
      (bd (nA M 21 p1.toNatClampNeg) fun M2 =>
      al p0 M2 fun a3 =>
      clI (ex 8 2 [pI (nI (ln M2 a3)), pI p1] M2) fun r5 M4 =>
      cpJ p0 0 (some (mT M)) 0 r5 M4 fun M6 =>
      some (some (pR (some (mT M))), M6))
    else
      cnJ p0 M fun q7 M8 =>
      ck (some q7) 21 M8
      (some (some (pR (some q7)), M8)) := (rn_un PP [] 25 19 0 _ [] M).trans rfl
set_option maxRecDepth 100000 in
set_option maxHeartbeats 4000000 in
theorem tJ15_checkIndex_7cf53 (p0 : Int32) (p1 : Int32) (M : Mem) : ex 26 2 [pI p0, pI p1] M =
    clI (ex 29 3 [pI p0, pI p1, pR (none : Option Nat)] M) fun r2 M1 =>
    some (some (pI r2), M1) := (rn_un PP [] 26 6 0 _ [] M).trans rfl
set_option maxRecDepth 100000 in
set_option maxHeartbeats 4000000 in
theorem tJ8_newLength_cabcc (p0 : Int32) (p1 : Int32) (p2 : Int32) (M : Mem) : ex 27 4 [pI p0, pI p1, pI p2] M =
    clI (ex 7 2 [pI p1, pI p2] M) fun r2 M1 =>
    if (p0 + r2) ≤ (0 : Int32) then
      clI (ex 28 3 [pI p0, pI p1] M1) fun r4 M3 =>
      some (some (pI r4), M3)
    else
      if 2147483639 < (p0 + r2) then
        clI (ex 28 3 [pI p0, pI p1] M1) fun r6 M5 =>
        some (some (pI r6), M5)
      else
        some (some (pI (p0 + r2)), M1) := (rn_un PP [] 27 17 0 _ [] M).trans rfl
set_option maxRecDepth 100000 in
set_option maxHeartbeats 4000000 in
theorem tJ8_hugeLength_7cf53 (p0 : Int32) (p1 : Int32) (M : Mem) : ex 28 3 [pI p0, pI p1] M =
    if 0 ≤ (p0 + p1) then
      if 2147483639 < (p0 + p1) then
        some (some (pI (p0 + p1)), M)
      else
        some (some (pI 2147483639), M)
    else
      none := (rn_un PP [] 28 12 0 _ [] M).trans rfl
set_option maxRecDepth 100000 in
set_option maxHeartbeats 4000000 in
theorem tJ3_checkIndex_8e157 (p0 : Int32) (p1 : Int32) (p2 : Option Nat) (M : Mem) : ex 29 3 [pI p0, pI p1, pR p2] M =
    if p0 < 0 then
      none
    else
      if p0 < p1 then
        some (some (pI p0), M)
      else
        none := (rn_un PP [] 29 10 0 _ [] M).trans rfl
set_option maxRecDepth 100000 in
set_option maxHeartbeats 4000000 in
theorem tX0_isName (p0 : Int64) (M : Mem) : ex 30 6 [pJ p0] M =
    rn PP 30 4 [some (pJ p0), none, some (pI 0), some (pI 0), none, none] [] M := (rn_un PP [4, 53, 55, 72] 30 6 0 _ [] M).trans rfl
set_option maxRecDepth 100000 in
set_option maxHeartbeats 4000000 in
theorem tX0_isName_4 (l0 : Int64) (l2 : Int32) (l3 : Int32) (M : Mem) : rn PP 30 4 [some (pJ l0), none, some (pI l2), some (pI l3), none, none] [] M =
    if 64 ≤ l3 then
      if lg_cmp l0 (0 : Int64) = 0 then
        rn PP 30 72 [none, none, none, none, none, none] [pI 0] M
      else
        rn PP 30 72 [none, none, none, none, none, none] [pI 1] M
    else
      if ¬ lg_cmp ((l0.toUInt64 >>> (l3.toInt64.toUInt64 &&& Int64.toUInt64 63)).toInt64 &&& (255 : Int64)) (0 : Int64) = 0 then
        if ¬ l2 = 0 then
          rn PP 30 53 [none, none, none, none, none, none] [] M
        else
          if lg_cmp ((l0.toUInt64 >>> (l3.toInt64.toUInt64 &&& Int64.toUInt64 63)).toInt64 &&& (255 : Int64)) (97 : Int64) < 0 then
            rn PP 30 53 [none, none, none, none, none, none] [] M
          else
            if lg_cmp ((l0.toUInt64 >>> (l3.toInt64.toUInt64 &&& Int64.toUInt64 63)).toInt64 &&& (255 : Int64)) (122 : Int64) ≤ 0 then
              rn PP 30 55 [some (pJ l0), none, some (pI l2), some (pI l3), none, none] [] M
            else
              rn PP 30 53 [none, none, none, none, none, none] [] M
      else
        rn PP 30 55 [some (pJ l0), none, some (pI 1), some (pI l3), none, none] [] M := (rn_un PP [4, 53, 55, 72] 30 25 4 _ _ M).trans rfl
set_option maxRecDepth 100000 in
set_option maxHeartbeats 4000000 in
theorem tX0_isName_53 (M : Mem) : rn PP 30 53 [none, none, none, none, none, none] [] M =
    zo 0 (some (some (pI 0), M)) := (rn_un PP [4, 53, 55, 72] 30 3 53 _ _ M).trans rfl
set_option maxRecDepth 100000 in
set_option maxHeartbeats 4000000 in
theorem tX0_isName_55 (l0 : Int64) (l2 : Int32) (l3 : Int32) (M : Mem) : rn PP 30 55 [some (pJ l0), none, some (pI l2), some (pI l3), none, none] [] M =
    rn PP 30 4 [some (pJ l0), none, some (pI l2), some (pI (l3 + 8)), none, none] [] M := (rn_un PP [4, 53, 55, 72] 30 4 55 _ _ M).trans rfl
set_option maxRecDepth 100000 in
set_option maxHeartbeats 4000000 in
theorem tX0_isName_72 (s0 : Int32) (M : Mem) : rn PP 30 72 [none, none, none, none, none, none] [pI s0] M =
    zo s0 (some (some (pI s0), M)) := (rn_un PP [4, 53, 55, 72] 30 2 72 _ _ M).trans rfl
set_option maxRecDepth 100000 in
set_option maxHeartbeats 4000000 in
theorem tX0_shaped (p0 : Int32) (p1 : Int64) (M : Mem) : ex 31 3 [pI p0, pJ p1] M =
    if p0 = Int32.ofInt (0) then
      if lg_cmp p1 (0 : Int64) = 0 then
        some (some (pJ (0 : Int64)), M)
      else
        some (some (pJ (1 : Int64)), M)
    else if p0 = Int32.ofInt (1) then
      some (some (pJ p1.toInt32.toInt8.toInt32.toInt64), M)
    else if p0 = Int32.ofInt (2) then
      some (some (pJ p1.toInt32.toInt16.toInt32.toInt64), M)
    else if p0 = Int32.ofInt (3) then
      some (some (pJ (((p1.toInt32.toUInt32 % 65536).toInt32).toInt64)), M)
    else if p0 = Int32.ofInt (4) then
      some (some (pJ p1.toInt32.toInt64), M)
    else if p0 = Int32.ofInt (5) then
      some (some (pJ p1), M)
    else if p0 = Int32.ofInt (6) then
      if (p1.toInt32 &&& 2147483647) ≤ 2139095040 then
        some (some (pJ p1.toInt32.toInt64), M)
      else
        some (some (pJ (2143289344 : Int64)), M)
    else if p0 = Int32.ofInt (7) then
      clI (ex 32 2 [pJ p1] M) fun r2 M1 =>
      if r2 = 0 then
        some (some (pJ (9221120237041090560 : Int64)), M1)
      else
        some (some (pJ p1), M1)
    else 
      some (some (pJ p1), M) := (rn_un PP [] 31 13 0 _ [] M).trans rfl
set_option maxRecDepth 100000 in
set_option maxHeartbeats 4000000 in
theorem tX0_isNumber (p0 : Int64) (M : Mem) : ex 32 2 [pJ p0] M =
    if 0 < lg_cmp (p0 &&& (9223372036854775807 : Int64)) (9218868437227405312 : Int64) then
      zo 0 (some (some (pI 0), M))
    else
      zo 1 (some (some (pI 1), M)) := (rn_un PP [] 32 10 0 _ [] M).trans rfl
set_option maxRecDepth 100000 in
set_option maxHeartbeats 4000000 in
theorem tX0_widened (p0 : Int32) (p1 : Int32) (p2 : Int64) (M : Mem) : ex 33 4 [pI p0, pI p1, pJ p2] M =
    if ¬ p0 = p1 then
      if ¬ p1 = 6 then
        if ¬ p1 = 7 then
          some (some (pJ p2), M)
        else
          if ¬ p0 = 6 then
            clJ (ex 37 4 [pJ p2] M) fun r2 M1 =>
            some (some (pJ r2), M1)
          else
            clJ (ex 40 9 [pI p2.toInt32] M) fun r4 M3 =>
            some (some (pJ r4), M3)
      else
        clJ (ex 36 3 [pJ p2] M) fun r6 M5 =>
        some (some (pJ r6), M5)
    else
      some (some (pJ p2), M) := (rn_un PP [] 33 18 0 _ [] M).trans rfl
set_option maxRecDepth 100000 in
set_option maxHeartbeats 4000000 in
theorem tX0_isBetween (p0 : Int32) (p1 : Int64) (p2 : Int64) (p3 : Int64) (M : Mem) : ex 34 9 [pI p0, pJ p1, pJ p2, pJ p3] M =
    if p0 = 6 then
      if ¬ p0 = 6 then
        clI (ex 32 2 [pJ p1] M) fun r2 M1 =>
        if ¬ r2 = 0 then
          clJ (ex 35 2 [pJ p1] M1) fun r4 M3 =>
          clJ (ex 37 4 [pJ p2] M3) fun r6 M5 =>
          clJ (ex 35 2 [pJ r6] M5) fun r8 M7 =>
          if lg_cmp r4 r8 < 0 then
            zo 0 (some (some (pI 0), M7))
          else
            clJ (ex 35 2 [pJ p1] M7) fun r10 M9 =>
            clJ (ex 37 4 [pJ p3] M9) fun r12 M11 =>
            clJ (ex 35 2 [pJ r12] M11) fun r14 M13 =>
            if 0 < lg_cmp r10 r14 then
              zo 0 (some (some (pI 0), M13))
            else
              zo 1 (some (some (pI 1), M13))
        else
          zo 0 (some (some (pI 0), M1))
      else
        clJ (ex 40 9 [pI p1.toInt32] M) fun r16 M15 =>
        clI (ex 32 2 [pJ r16] M15) fun r18 M17 =>
        if ¬ r18 = 0 then
          clJ (ex 35 2 [pJ r16] M17) fun r20 M19 =>
          clJ (ex 37 4 [pJ p2] M19) fun r22 M21 =>
          clJ (ex 35 2 [pJ r22] M21) fun r24 M23 =>
          if lg_cmp r20 r24 < 0 then
            zo 0 (some (some (pI 0), M23))
          else
            clJ (ex 35 2 [pJ r16] M23) fun r26 M25 =>
            clJ (ex 37 4 [pJ p3] M25) fun r28 M27 =>
            clJ (ex 35 2 [pJ r28] M27) fun r30 M29 =>
            if 0 < lg_cmp r26 r30 then
              zo 0 (some (some (pI 0), M29))
            else
              zo 1 (some (some (pI 1), M29))
        else
          zo 0 (some (some (pI 0), M17))
    else
      if p0 = 7 then
        if ¬ p0 = 6 then
          clI (ex 32 2 [pJ p1] M) fun r32 M31 =>
          if ¬ r32 = 0 then
            clJ (ex 35 2 [pJ p1] M31) fun r34 M33 =>
            clJ (ex 37 4 [pJ p2] M33) fun r36 M35 =>
            clJ (ex 35 2 [pJ r36] M35) fun r38 M37 =>
            if lg_cmp r34 r38 < 0 then
              zo 0 (some (some (pI 0), M37))
            else
              clJ (ex 35 2 [pJ p1] M37) fun r40 M39 =>
              clJ (ex 37 4 [pJ p3] M39) fun r42 M41 =>
              clJ (ex 35 2 [pJ r42] M41) fun r44 M43 =>
              if 0 < lg_cmp r40 r44 then
                zo 0 (some (some (pI 0), M43))
              else
                zo 1 (some (some (pI 1), M43))
          else
            zo 0 (some (some (pI 0), M31))
        else
          clJ (ex 40 9 [pI p1.toInt32] M) fun r46 M45 =>
          clI (ex 32 2 [pJ r46] M45) fun r48 M47 =>
          if ¬ r48 = 0 then
            clJ (ex 35 2 [pJ r46] M47) fun r50 M49 =>
            clJ (ex 37 4 [pJ p2] M49) fun r52 M51 =>
            clJ (ex 35 2 [pJ r52] M51) fun r54 M53 =>
            if lg_cmp r50 r54 < 0 then
              zo 0 (some (some (pI 0), M53))
            else
              clJ (ex 35 2 [pJ r46] M53) fun r56 M55 =>
              clJ (ex 37 4 [pJ p3] M55) fun r58 M57 =>
              clJ (ex 35 2 [pJ r58] M57) fun r60 M59 =>
              if 0 < lg_cmp r56 r60 then
                zo 0 (some (some (pI 0), M59))
              else
                zo 1 (some (some (pI 1), M59))
          else
            zo 0 (some (some (pI 0), M47))
      else
        if lg_cmp p1 p2 < 0 then
          zo 0 (some (some (pI 0), M))
        else
          if 0 < lg_cmp p1 p3 then
            zo 0 (some (some (pI 0), M))
          else
            zo 1 (some (some (pI 1), M)) := (rn_un PP [] 34 35 0 _ [] M).trans rfl
set_option maxRecDepth 100000 in
set_option maxHeartbeats 4000000 in
theorem tX0_place (p0 : Int64) (M : Mem) : ex 35 2 [pJ p0] M =
    if lg_cmp p0 (0 : Int64) < 0 then
      some (some (pJ (-(p0 &&& (9223372036854775807 : Int64)))), M)
    else
      some (some (pJ p0), M) := (rn_un PP [] 35 10 0 _ [] M).trans rfl
set_option maxRecDepth 100000 in
set_option maxHeartbeats 4000000 in
theorem tX0_floatOfWhole (p0 : Int64) (M : Mem) : ex 36 3 [pJ p0] M =
    clJ (ex 38 9 [pJ p0, pI 23, pI 127] M) fun r2 M1 =>
    if 0 ≤ lg_cmp p0 (0 : Int64) then
      some (some (pJ r2.toInt32.toInt64), M1)
    else
      some (some (pJ ((r2.toInt32 ||| (-2147483648)).toInt64)), M1) := (rn_un PP [] 36 17 0 _ [] M).trans rfl
set_option maxRecDepth 100000 in
set_option maxHeartbeats 4000000 in
theorem tX0_doubleOfWhole (p0 : Int64) (M : Mem) : ex 37 4 [pJ p0] M =
    clJ (ex 38 9 [pJ p0, pI 52, pI 1023] M) fun r2 M1 =>
    if 0 ≤ lg_cmp p0 (0 : Int64) then
      some (some (pJ r2), M1)
    else
      some (some (pJ (r2 ||| (-9223372036854775808 : Int64))), M1) := (rn_un PP [] 37 15 0 _ [] M).trans rfl
set_option maxRecDepth 100000 in
set_option maxHeartbeats 4000000 in
theorem tX0_sizeOfWhole (p0 : Int64) (p1 : Int32) (p2 : Int32) (M : Mem) : ex 38 9 [pJ p0, pI p1, pI p2] M =
    if ¬ lg_cmp p0 (0 : Int64) = 0 then
      if 0 ≤ lg_cmp p0 (0 : Int64) then
        rn PP 38 20 [none, none, some (pI p1), some (pI p2), none, none, none, none, none] [pJ p0] M
      else
        rn PP 38 20 [none, none, some (pI p1), some (pI p2), none, none, none, none, none] [pJ (-p0)] M
    else
      some (some (pJ (0 : Int64)), M) := (rn_un PP [20, 57] 38 13 0 _ [] M).trans rfl
set_option maxRecDepth 100000 in
set_option maxHeartbeats 4000000 in
theorem tX0_sizeOfWhole_20 (l2 : Int32) (l3 : Int32) (s0 : Int64) (M : Mem) : rn PP 38 20 [none, none, some (pI l2), some (pI l3), none, none, none, none, none] [pJ s0] M =
    clI (ex 5 3 [pJ s0] M) fun r2 M1 =>
    if l2 < (63 - r2) then
      clJ (ex 39 10 [pJ s0, pI ((63 - r2) - l2)] M1) fun r4 M3 =>
      rn PP 38 57 [none, none, some (pI l2), some (pI l3), none, none, some (pI (63 - r2)), none, none] [pJ r4] M3
    else
      rn PP 38 57 [none, none, some (pI l2), some (pI l3), none, none, some (pI (63 - r2)), none, none] [pJ (s0 <<< ((l2 - (63 - r2)).toInt64 &&& 63))] M1 := (rn_un PP [20, 57] 38 17 20 _ _ M).trans rfl
set_option maxRecDepth 100000 in
set_option maxHeartbeats 4000000 in
theorem tX0_sizeOfWhole_57 (l2 : Int32) (l3 : Int32) (l6 : Int32) (s0 : Int64) (M : Mem) : rn PP 38 57 [none, none, some (pI l2), some (pI l3), none, none, some (pI l6), none, none] [pJ s0] M =
    some (some (pJ (((((l3 + l6).toInt64) <<< (l2.toInt64 &&& 63)) + s0) - ((1 : Int64) <<< (l2.toInt64 &&& 63)))), M) := (rn_un PP [20, 57] 38 15 57 _ _ M).trans rfl
set_option maxRecDepth 100000 in
set_option maxHeartbeats 4000000 in
theorem tX0_nearestEven (p0 : Int64) (p1 : Int32) (M : Mem) : ex 39 10 [pJ p0, pI p1] M =
    if 0 < lg_cmp (p0 &&& (((1 : Int64) <<< (p1.toInt64 &&& 63)) - (1 : Int64))) ((1 : Int64) <<< ((p1 - 1).toInt64 &&& 63)) then
      rn PP 39 44 [none, none, none, some (pJ ((p0.toUInt64 >>> (p1.toInt64.toUInt64 &&& Int64.toUInt64 63)).toInt64)), none, none, none, none, none, none] [] M
    else
      if ¬ lg_cmp (p0 &&& (((1 : Int64) <<< (p1.toInt64 &&& 63)) - (1 : Int64))) ((1 : Int64) <<< ((p1 - 1).toInt64 &&& 63)) = 0 then
        rn PP 39 48 [none, none, none, some (pJ ((p0.toUInt64 >>> (p1.toInt64.toUInt64 &&& Int64.toUInt64 63)).toInt64)), none, none, none, none, none, none] [] M
      else
        if lg_cmp ((p0.toUInt64 >>> (p1.toInt64.toUInt64 &&& Int64.toUInt64 63)).toInt64 &&& (1 : Int64)) (0 : Int64) = 0 then
          rn PP 39 48 [none, none, none, some (pJ ((p0.toUInt64 >>> (p1.toInt64.toUInt64 &&& Int64.toUInt64 63)).toInt64)), none, none, none, none, none, none] [] M
        else
          rn PP 39 44 [none, none, none, some (pJ ((p0.toUInt64 >>> (p1.toInt64.toUInt64 &&& Int64.toUInt64 63)).toInt64)), none, none, none, none, none, none] [] M := (rn_un PP [44, 48, 49, 63] 39 34 0 _ [] M).trans rfl
set_option maxRecDepth 100000 in
set_option maxHeartbeats 4000000 in
theorem tX0_nearestEven_44 (l3 : Int64) (M : Mem) : rn PP 39 44 [none, none, none, some (pJ l3), none, none, none, none, none, none] [] M =
    rn PP 39 49 [none, none, none, some (pJ l3), none, none, none, none, none, none] [pI 1] M := (rn_un PP [44, 48, 49, 63] 39 4 44 _ _ M).trans rfl
set_option maxRecDepth 100000 in
set_option maxHeartbeats 4000000 in
theorem tX0_nearestEven_48 (l3 : Int64) (M : Mem) : rn PP 39 48 [none, none, none, some (pJ l3), none, none, none, none, none, none] [] M =
    rn PP 39 49 [none, none, none, some (pJ l3), none, none, none, none, none, none] [pI 0] M := (rn_un PP [44, 48, 49, 63] 39 3 48 _ _ M).trans rfl
set_option maxRecDepth 100000 in
set_option maxHeartbeats 4000000 in
theorem tX0_nearestEven_49 (l3 : Int64) (s0 : Int32) (M : Mem) : rn PP 39 49 [none, none, none, some (pJ l3), none, none, none, none, none, none] [pI s0] M =
    if s0 = 0 then
      rn PP 39 63 [none, none, none, none, none, none, none, none, none, none] [pJ l3] M
    else
      rn PP 39 63 [none, none, none, none, none, none, none, none, none, none] [pJ (l3 + (1 : Int64))] M := (rn_un PP [44, 48, 49, 63] 39 9 49 _ _ M).trans rfl
set_option maxRecDepth 100000 in
set_option maxHeartbeats 4000000 in
theorem tX0_nearestEven_63 (s0 : Int64) (M : Mem) : rn PP 39 63 [none, none, none, none, none, none, none, none, none, none] [pJ s0] M =
    some (some (pJ s0), M) := (rn_un PP [44, 48, 49, 63] 39 2 63 _ _ M).trans rfl
set_option maxRecDepth 100000 in
set_option maxHeartbeats 4000000 in
theorem tX0_doubleOfFloat (p0 : Int32) (M : Mem) : ex 40 9 [pI p0] M =
    if 0 ≤ p0 then
      rn PP 40 11 [some (pI p0), none, none, none, none, none, none, none, none] [pJ (0 : Int64)] M
    else
      rn PP 40 11 [some (pI p0), none, none, none, none, none, none, none, none] [pJ (-9223372036854775808 : Int64)] M := (rn_un PP [11, 90] 40 6 0 _ [] M).trans rfl
set_option maxRecDepth 100000 in
set_option maxHeartbeats 4000000 in
theorem tX0_doubleOfFloat_11 (l0 : Int32) (s0 : Int64) (M : Mem) : rn PP 40 11 [some (pI l0), none, none, none, none, none, none, none, none] [pJ s0] M =
    if ¬ (l0 &&& 2147483647) = 0 then
      if (l0 &&& 2147483647) ≤ 2139095040 then
        if ¬ (l0 &&& 2147483647) = 2139095040 then
          if ¬ ((l0 &&& 2147483647) >>> (23 &&& 31)) = 0 then
            rn PP 40 90 [none, some (pJ s0), none, none, some (pI ((l0 &&& 2147483647) >>> (23 &&& 31))), some (pJ (((l0 &&& 2147483647) &&& 8388607).toInt64)), none, none, none] [] M
          else
            clI (ex 5 3 [pJ (((l0 &&& 2147483647) &&& 8388607).toInt64)] M) fun r2 M1 =>
            rn PP 40 90 [none, some (pJ s0), none, none, some (pI (1 - (r2 - 40))), some (pJ (((((l0 &&& 2147483647) &&& 8388607).toInt64) <<< ((r2 - 40).toInt64 &&& 63)) - (8388608 : Int64))), none, none, none] [] M1
        else
          some (some (pJ (s0 ||| (9218868437227405312 : Int64))), M)
      else
        some (some (pJ (9221120237041090560 : Int64)), M)
    else
      some (some (pJ s0), M) := (rn_un PP [11, 90] 40 41 11 _ _ M).trans rfl
set_option maxRecDepth 100000 in
set_option maxHeartbeats 4000000 in
theorem tX0_doubleOfFloat_90 (l1 : Int64) (l4 : Int32) (l5 : Int64) (M : Mem) : rn PP 40 90 [none, some (pJ l1), none, none, some (pI l4), some (pJ l5), none, none, none] [] M =
    some (some (pJ ((l1 ||| ((((l4 - 127) + 1023).toInt64) <<< ((52 : Int32).toInt64 &&& 63))) ||| (l5 <<< ((29 : Int32).toInt64 &&& 63)))), M) := (rn_un PP [11, 90] 40 18 90 _ _ M).trans rfl
set_option maxRecDepth 100000 in
set_option maxHeartbeats 4000000 in
theorem tX1_init (r0 : Option Nat) (p0 : Int32) (p1 : Int32) (p2 : Int64) (p3 : Int64) (M : Mem) : ex 41 7 [pR r0, pI p0, pI p1, pJ p2, pJ p3] M =
    nn r0
    (rd r0 1 M fun a2 =>
    bd (sI M 64 a2 p0) fun M3 =>
    rd r0 1 M3 fun a4 =>
    bd (sI M3 65 a4 p1) fun M5 =>
    rd r0 1 M5 fun a6 =>
    bd (sJ M5 66 a6 p2) fun M7 =>
    rd r0 1 M7 fun a8 =>
    bd (sJ M7 67 a8 p3) fun M9 =>
    some (none, M9)) := (rn_un PP [] 41 16 0 _ [] M).trans rfl
set_option maxRecDepth 100000 in
set_option maxHeartbeats 4000000 in
theorem tX2_init (r0 : Option Nat) (p0 : Int64) (p1 : Int32) (M : Mem) : ex 42 4 [pR r0, pJ p0, pI p1] M =
    nn r0
    (rd r0 2 M fun a2 =>
    bd (sJ M 128 a2 p0) fun M3 =>
    rd r0 2 M3 fun a4 =>
    zo p1 (bd (sI M3 129 a4 p1) fun M5 =>
    some (none, M5))) := (rn_un PP [] 42 10 0 _ [] M).trans rfl
set_option maxRecDepth 100000 in
set_option maxHeartbeats 4000000 in
theorem tX2_once (r0 : Option Nat) (p0 : Int32) (p1 : Int32) (M : Mem) : ex 43 3 [pR r0, pI p0, pI p1] M =
    rd r0 2 M fun a1 =>
    if gI M 129 a1 = 0 then
      some (some (pI (p1 + p0)), M)
    else
      some (some (pI (((p1 + p0) * 3) - 1)), M) := (rn_un PP [] 43 13 0 _ [] M).trans rfl
set_option maxRecDepth 100000 in
set_option maxHeartbeats 4000000 in
theorem tX2_twice (r0 : Option Nat) (p0 : Int32) (p1 : Int32) (M : Mem) : ex 44 4 [pR r0, pI p0, pI p1] M =
    rd r0 2 M fun a2 =>
    clI (ex 43 3 [pR (some a2), pI p0, pI p1] M) fun r3 M1 =>
    rd r0 2 M1 fun a4 =>
    if gI M1 129 a4 = 0 then
      rd r0 2 M1 fun a6 =>
      clI (ex 43 3 [pR (some a6), pI p0, pI r3] M1) fun r7 M5 =>
      some (some (pI r7), M5)
    else
      gd (¬ 2 = 0)
      (if (p0 - p0 / 2 * 2) = 0 then
        rd r0 2 M1 fun a9 =>
        clI (ex 43 3 [pR (some a9), pI p0, pI r3] M1) fun r10 M8 =>
        some (some (pI r10), M8)
      else
        some (some (pI (p1 - r3)), M1)) := (rn_un PP [] 44 18 0 _ [] M).trans rfl
set_option maxRecDepth 100000 in
set_option maxHeartbeats 4000000 in
theorem tX3_init (r0 : Option Nat) (M : Mem) : ex 45 1 [pR r0] M =
    nn r0
    (bd (nO M 0 3) fun M2 =>
    rd (some (mT M)) 0 M2 fun a4 =>
    clV (ex 11 1 [pR (some a4)] M2) fun M3 =>
    rd r0 3 M3 fun a5 =>
    bd (sF M3 192 a5 (some (mT M))) fun M6 =>
    some (none, M6)) := (rn_un PP [] 45 9 0 _ [] M).trans rfl
set_option maxRecDepth 100000 in
set_option maxHeartbeats 4000000 in
theorem tX3_constantAt (r0 : Option Nat) (p0 : Int64) (M : Mem) : ex 46 3 [pR r0, pJ p0] M =
    if lg_cmp p0 (0 : Int64) < 0 then
      some (some (pR (none : Option Nat)), M)
    else
      rd r0 3 M fun a1 =>
      rd (gR M 192 a1) 0 M fun a3 =>
      clI (ex 14 1 [pR (some a3)] M) fun r4 M2 =>
      if 0 ≤ lg_cmp p0 r4.toInt64 then
        some (some (pR (none : Option Nat)), M2)
      else
        rd r0 3 M2 fun a5 =>
        rd (gR M2 192 a5) 0 M2 fun a7 =>
        clR (ex 16 2 [pR (some a7), pI p0.toInt32] M2) fun r8 M6 =>
        ck r8 2 M6
        (some (some (pR r8), M6)) := (rn_un PP [] 46 20 0 _ [] M).trans rfl
set_option maxRecDepth 100000 in
set_option maxHeartbeats 4000000 in
theorem tX3_ordinalOf (r0 : Option Nat) (p0 : Int64) (M : Mem) : ex 47 4 [pR r0, pJ p0] M =
    rn PP 47 2 [some (pR r0), some (pJ p0), none, some (pI 0)] [] M := (rn_un PP [2] 47 4 0 _ [] M).trans rfl
set_option maxRecDepth 100000 in
set_option maxHeartbeats 4000000 in
theorem tX3_ordinalOf_2 (l0 : Option Nat) (l1 : Int64) (l3 : Int32) (M : Mem) : rn PP 47 2 [some (pR l0), some (pJ l1), none, some (pI l3)] [] M =
    rd l0 3 M fun a1 =>
    rd (gR M 192 a1) 0 M fun a3 =>
    clI (ex 14 1 [pR (some a3)] M) fun r4 M2 =>
    if r4 ≤ l3 then
      some (some (pI (-1)), M2)
    else
      rd l0 3 M2 fun a5 =>
      rd (gR M2 192 a5) 0 M2 fun a7 =>
      clR (ex 16 2 [pR (some a7), pI l3] M2) fun r8 M6 =>
      ck r8 2 M6
      (rd r8 2 M6 fun a9 =>
      if ¬ lg_cmp (gJ M6 128 a9) l1 = 0 then
        rn PP 47 2 [some (pR l0), some (pJ l1), none, some (pI (l3 + 1))] [] M6
      else
        some (some (pI l3), M6)) := (rn_un PP [2] 47 18 2 _ _ M).trans rfl
set_option maxRecDepth 100000 in
set_option maxHeartbeats 4000000 in
theorem tX3_rest (r0 : Option Nat) (M : Mem) : ex 48 1 [pR r0] M =
    rd r0 3 M fun a1 =>
    zo 0 (bd (sI M 194 a1 0) fun M2 =>
    rd r0 3 M2 fun a3 =>
    zo 0 (bd (sI M2 195 a3 0) fun M4 =>
    some (none, M4))) := (rn_un PP [] 48 8 0 _ [] M).trans rfl
set_option maxRecDepth 100000 in
set_option maxHeartbeats 4000000 in
theorem tX4_init (r0 : Option Nat) (M : Mem) : ex 49 1 [pR r0] M =
    nn r0
    (gd (¬ (4 : Int32) < 0 ∧ (4 : Int32).toNatClampNeg ≤ 60000000)
    (bd (nA M 20 (4 : Int32).toNatClampNeg) fun M2 =>
    rd r0 4 M2 fun a3 =>
    bd (sF M2 256 a3 (some (mT M))) fun M4 =>
    gd (¬ (6 : Int32) < 0 ∧ (6 : Int32).toNatClampNeg ≤ 60000000)
    (bd (nA M4 20 (6 : Int32).toNatClampNeg) fun M5 =>
    rd r0 4 M5 fun a6 =>
    bd (sF M5 258 a6 (some (mT M4))) fun M7 =>
    some (none, M7)))) := (rn_un PP [] 49 12 0 _ [] M).trans rfl
set_option maxRecDepth 100000 in
set_option maxHeartbeats 4000000 in
theorem tX4_hasMember (r0 : Option Nat) (p0 : Int32) (M : Mem) : ex 50 3 [pR r0, pI p0] M =
    rn PP 50 2 [some (pR r0), some (pI p0), some (pI 0)] [] M := (rn_un PP [2] 50 4 0 _ [] M).trans rfl
set_option maxRecDepth 100000 in
set_option maxHeartbeats 4000000 in
theorem tX4_hasMember_2 (l0 : Option Nat) (l1 : Int32) (l2 : Int32) (M : Mem) : rn PP 50 2 [some (pR l0), some (pI l1), some (pI l2)] [] M =
    rd l0 4 M fun a1 =>
    if gI M 257 a1 ≤ l2 then
      zo 0 (some (some (pI 0), M))
    else
      rd l0 4 M fun a2 =>
      ix 20 30 (gR M 256 a2) l2 M fun a3 j4 =>
      if ¬ aI M a3 j4 = l1 then
        rn PP 50 2 [some (pR l0), some (pI l1), some (pI (l2 + 1))] [] M
      else
        zo 1 (some (some (pI 1), M)) := (rn_un PP [2] 50 14 2 _ _ M).trans rfl
set_option maxRecDepth 100000 in
set_option maxHeartbeats 4000000 in
theorem tX4_tagOf (r0 : Option Nat) (p0 : Int32) (M : Mem) : ex 51 3 [pR r0, pI p0] M =
    rn PP 51 2 [some (pR r0), some (pI p0), some (pI 0)] [] M := (rn_un PP [2] 51 4 0 _ [] M).trans rfl
set_option maxRecDepth 100000 in
set_option maxHeartbeats 4000000 in
theorem tX4_tagOf_2 (l0 : Option Nat) (l1 : Int32) (l2 : Int32) (M : Mem) : rn PP 51 2 [some (pR l0), some (pI l1), some (pI l2)] [] M =
    rd l0 4 M fun a1 =>
    if gI M 259 a1 ≤ l2 then
      some (some (pI (-1)), M)
    else
      rd l0 4 M fun a2 =>
      ix 20 30 (gR M 258 a2) l2 M fun a3 j4 =>
      if ¬ aI M a3 j4 = l1 then
        rn PP 51 2 [some (pR l0), some (pI l1), some (pI (l2 + 1))] [] M
      else
        some (some (pI l2), M) := (rn_un PP [2] 51 14 2 _ _ M).trans rfl
set_option maxRecDepth 100000 in
set_option maxHeartbeats 4000000 in
theorem tX4_addLeaf (r0 : Option Nat) (p0 : Int32) (M : Mem) : ex 52 2 [pR r0, pI p0] M =
    rd r0 4 M fun a2 =>
    clI (ex 51 3 [pR (some a2), pI p0] M) fun r3 M1 =>
    if ¬ r3 = (-1) then
      some (none, M1)
    else
      rd r0 4 M1 fun a4 =>
      rd r0 4 M1 fun a5 =>
      al (gR M1 258 a5) M1 fun a6 =>
      if nI (ln M1 a6) ≤ gI M1 259 a4 then
        some (none, M1)
      else
        rd r0 4 M1 fun a7 =>
        rd r0 4 M1 fun a8 =>
        rd r0 4 M1 fun a9 =>
        bd (sI M1 259 a9 (gI M1 259 a8 + 1)) fun M10 =>
        ix 20 20 (gR M1 258 a7) (gI M1 259 a8) M10 fun a11 j12 =>
        bd (wI M10 a11 j12 p0) fun M13 =>
        some (none, M13) := (rn_un PP [] 52 24 0 _ [] M).trans rfl
set_option maxRecDepth 100000 in
set_option maxHeartbeats 4000000 in
theorem tX4_addLeavesOf (r0 : Option Nat) (p0 : Option Nat) (M : Mem) : ex 53 3 [pR r0, pR p0] M =
    rn PP 53 2 [some (pR r0), some (pR p0), some (pI 0)] [] M := (rn_un PP [2] 53 4 0 _ [] M).trans rfl
set_option maxRecDepth 100000 in
set_option maxHeartbeats 4000000 in
theorem tX4_addLeavesOf_2 (l0 : Option Nat) (l1 : Option Nat) (l2 : Int32) (M : Mem) : rn PP 53 2 [some (pR l0), some (pR l1), some (pI l2)] [] M =
    if l1 = none then
      some (none, M)
    else
      rd l1 4 M fun a1 =>
      if gI M 259 a1 ≤ l2 then
        some (none, M)
      else
        rd l1 4 M fun a2 =>
        ix 20 30 (gR M 258 a2) l2 M fun a3 j4 =>
        rd l0 4 M fun a6 =>
        clV (ex 52 2 [pR (some a6), pI (aI M a3 j4)] M) fun M5 =>
        rn PP 53 2 [some (pR l0), some (pR l1), some (pI (l2 + 1))] [] M5 := (rn_un PP [2] 53 16 2 _ _ M).trans rfl
set_option maxRecDepth 100000 in
set_option maxHeartbeats 4000000 in
theorem tX5_init (r0 : Option Nat) (p0 : Option Nat) (p1 : Int64) (p2 : Option Nat) (M : Mem) : ex 54 5 [pR r0, pR p0, pJ p1, pR p2] M =
    nn r0
    (rd r0 5 M fun a2 =>
    bd (sI M 325 a2 (-1)) fun M3 =>
    rd p0 8 M3 fun a4 =>
    rd r0 5 M3 fun a5 =>
    bd (sJ M3 320 a5 (gJ M3 512 a4)) fun M6 =>
    rd p0 8 M6 fun a7 =>
    rd r0 5 M6 fun a8 =>
    bd (sI M6 321 a8 (gI M6 513 a7)) fun M9 =>
    rd p0 8 M9 fun a10 =>
    rd r0 5 M9 fun a11 =>
    bd (sI M9 322 a11 (gI M9 514 a10)) fun M12 =>
    rd r0 5 M12 fun a13 =>
    bd (sJ M12 323 a13 p1) fun M14 =>
    rd r0 5 M14 fun a15 =>
    bd (sF M14 324 a15 p2) fun M16 =>
    some (none, M16)) := (rn_un PP [] 54 25 0 _ [] M).trans rfl
set_option maxRecDepth 100000 in
set_option maxHeartbeats 4000000 in
theorem tX5_hasNames (r0 : Option Nat) (M : Mem) : ex 55 1 [pR r0] M =
    rd r0 5 M fun a1 =>
    if gI M 321 a1 = 8 then
      zo 1 (some (some (pI 1), M))
    else
      rd r0 5 M fun a2 =>
      if ¬ gI M 321 a2 = 9 then
        zo 0 (some (some (pI 0), M))
      else
        zo 1 (some (some (pI 1), M)) := (rn_un PP [] 55 12 0 _ [] M).trans rfl
set_option maxRecDepth 100000 in
set_option maxHeartbeats 4000000 in
theorem tX5_hasWord (r0 : Option Nat) (p0 : Int64) (M : Mem) : ex 56 4 [pR r0, pJ p0] M =
    rn PP 56 2 [some (pR r0), some (pJ p0), none, some (pI 0)] [] M := (rn_un PP [2] 56 4 0 _ [] M).trans rfl
set_option maxRecDepth 100000 in
set_option maxHeartbeats 4000000 in
theorem tX5_hasWord_2 (l0 : Option Nat) (l1 : Int64) (l3 : Int32) (M : Mem) : rn PP 56 2 [some (pR l0), some (pJ l1), none, some (pI l3)] [] M =
    rd l0 5 M fun a2 =>
    clI (ex 55 1 [pR (some a2)] M) fun r3 M1 =>
    if r3 = 0 then
      zo 0 (some (some (pI 0), M1))
    else
      rd l0 5 M1 fun a4 =>
      al (gR M1 324 a4) M1 fun a5 =>
      if nI (ln M1 a5) ≤ l3 then
        zo 0 (some (some (pI 0), M1))
      else
        rd l0 5 M1 fun a6 =>
        ix 21 21 (gR M1 324 a6) l3 M1 fun a7 j8 =>
        if ¬ lg_cmp (aJ M1 a7 j8) l1 = 0 then
          rn PP 56 2 [some (pR l0), some (pJ l1), none, some (pI (l3 + 1))] [] M1
        else
          zo 1 (some (some (pI 1), M1)) := (rn_un PP [2] 56 19 2 _ _ M).trans rfl
set_option maxRecDepth 100000 in
set_option maxHeartbeats 4000000 in
theorem tX5_hasOrdinal (r0 : Option Nat) (p0 : Option Nat) (p1 : Int32) (p2 : Int32) (M : Mem) : ex 57 6 [pR r0, pR p0, pI p1, pI p2] M =
    rn PP 57 3 [some (pR r0), some (pR p0), some (pI p1), some (pI p2), some (pI 0), none] [] M := (rn_un PP [3] 57 4 0 _ [] M).trans rfl
set_option maxRecDepth 100000 in
set_option maxHeartbeats 4000000 in
theorem tX5_hasOrdinal_3 (l0 : Option Nat) (l1 : Option Nat) (l2 : Int32) (l3 : Int32) (l4 : Int32) (M : Mem) : rn PP 57 3 [some (pR l0), some (pR l1), some (pI l2), some (pI l3), some (pI l4), none] [] M =
    rd l0 5 M fun a2 =>
    clI (ex 55 1 [pR (some a2)] M) fun r3 M1 =>
    if r3 = 0 then
      zo 0 (some (some (pI 0), M1))
    else
      rd l0 5 M1 fun a4 =>
      al (gR M1 324 a4) M1 fun a5 =>
      if nI (ln M1 a5) ≤ l4 then
        zo 0 (some (some (pI 0), M1))
      else
        rd l0 5 M1 fun a6 =>
        ix 21 21 (gR M1 324 a6) l4 M1 fun a7 j8 =>
        rd l1 3 M1 fun a10 =>
        clI (ex 47 4 [pR (some a10), pJ (aJ M1 a7 j8)] M1) fun r11 M9 =>
        if r11 = (-1) then
          rn PP 57 3 [some (pR l0), some (pR l1), some (pI l2), some (pI l3), some (pI (l4 + 1)), none] [] M9
        else
          if r11 < l2 then
            rn PP 57 3 [some (pR l0), some (pR l1), some (pI l2), some (pI l3), some (pI (l4 + 1)), none] [] M9
          else
            if l3 < r11 then
              rn PP 57 3 [some (pR l0), some (pR l1), some (pI l2), some (pI l3), some (pI (l4 + 1)), none] [] M9
            else
              zo 1 (some (some (pI 1), M9)) := (rn_un PP [3] 57 28 3 _ _ M).trans rfl
set_option maxRecDepth 100000 in
set_option maxHeartbeats 4000000 in
theorem tX5_goesTo (r0 : Option Nat) (p0 : Option Nat) (M : Mem) : ex 58 3 [pR r0, pR p0] M =
    rd r0 5 M fun a1 =>
    rd p0 8 M fun a2 =>
    if gI M 321 a1 = gI M 513 a2 then
      if ¬ (1 : Int32) = 0 then
        rd r0 5 M fun a3 =>
        if gI M 321 a3 < 8 then
          zo 1 (some (some (pI 1), M))
        else
          rd r0 5 M fun a4 =>
          if gI M 321 a4 = 11 then
            zo 1 (some (some (pI 1), M))
          else
            rd r0 5 M fun a5 =>
            rd p0 8 M fun a6 =>
            if ¬ gI M 322 a5 = gI M 514 a6 then
              zo 0 (some (some (pI 0), M))
            else
              zo 1 (some (some (pI 1), M))
      else
        rd r0 5 M fun a7 =>
        ix 20 30 (sR M 1) (gI M 321 a7) M fun a8 j9 =>
        rd p0 8 M fun a10 =>
        if (((aI M a8 j9) >>> (gI M 513 a10 &&& 31)) &&& 1) = 0 then
          zo 0 (some (some (pI 0), M))
        else
          zo 1 (some (some (pI 1), M))
    else
      rd r0 5 M fun a11 =>
      if ¬ gI M 321 a11 = 8 then
        if ¬ (0 : Int32) = 0 then
          rd r0 5 M fun a12 =>
          if gI M 321 a12 < 8 then
            zo 1 (some (some (pI 1), M))
          else
            rd r0 5 M fun a13 =>
            if gI M 321 a13 = 11 then
              zo 1 (some (some (pI 1), M))
            else
              rd r0 5 M fun a14 =>
              rd p0 8 M fun a15 =>
              if ¬ gI M 322 a14 = gI M 514 a15 then
                zo 0 (some (some (pI 0), M))
              else
                zo 1 (some (some (pI 1), M))
        else
          rd r0 5 M fun a16 =>
          ix 20 30 (sR M 1) (gI M 321 a16) M fun a17 j18 =>
          rd p0 8 M fun a19 =>
          if (((aI M a17 j18) >>> (gI M 513 a19 &&& 31)) &&& 1) = 0 then
            zo 0 (some (some (pI 0), M))
          else
            zo 1 (some (some (pI 1), M))
      else
        rd p0 8 M fun a20 =>
        if ¬ gI M 513 a20 = 9 then
          if ¬ (0 : Int32) = 0 then
            rd r0 5 M fun a21 =>
            if gI M 321 a21 < 8 then
              zo 1 (some (some (pI 1), M))
            else
              rd r0 5 M fun a22 =>
              if gI M 321 a22 = 11 then
                zo 1 (some (some (pI 1), M))
              else
                rd r0 5 M fun a23 =>
                rd p0 8 M fun a24 =>
                if ¬ gI M 322 a23 = gI M 514 a24 then
                  zo 0 (some (some (pI 0), M))
                else
                  zo 1 (some (some (pI 1), M))
          else
            rd r0 5 M fun a25 =>
            ix 20 30 (sR M 1) (gI M 321 a25) M fun a26 j27 =>
            rd p0 8 M fun a28 =>
            if (((aI M a26 j27) >>> (gI M 513 a28 &&& 31)) &&& 1) = 0 then
              zo 0 (some (some (pI 0), M))
            else
              zo 1 (some (some (pI 1), M))
        else
          if ¬ (1 : Int32) = 0 then
            rd r0 5 M fun a29 =>
            if gI M 321 a29 < 8 then
              zo 1 (some (some (pI 1), M))
            else
              rd r0 5 M fun a30 =>
              if gI M 321 a30 = 11 then
                zo 1 (some (some (pI 1), M))
              else
                rd r0 5 M fun a31 =>
                rd p0 8 M fun a32 =>
                if ¬ gI M 322 a31 = gI M 514 a32 then
                  zo 0 (some (some (pI 0), M))
                else
                  zo 1 (some (some (pI 1), M))
          else
            rd r0 5 M fun a33 =>
            ix 20 30 (sR M 1) (gI M 321 a33) M fun a34 j35 =>
            rd p0 8 M fun a36 =>
            if (((aI M a34 j35) >>> (gI M 513 a36 &&& 31)) &&& 1) = 0 then
              zo 0 (some (some (pI 0), M))
            else
              zo 1 (some (some (pI 1), M)) := (rn_un PP [] 58 35 0 _ [] M).trans rfl
set_option maxRecDepth 100000 in
set_option maxHeartbeats 4000000 in
theorem tX6_init (r0 : Option Nat) (p0 : Int32) (p1 : Int32) (p2 : Option Nat) (M : Mem) : ex 59 4 [pR r0, pI p0, pI p1, pR p2] M =
    nn r0
    (gd (¬ (6 : Int32) < 0 ∧ (6 : Int32).toNatClampNeg ≤ 60000000)
    (bd (nA M 21 (6 : Int32).toNatClampNeg) fun M2 =>
    rd r0 6 M2 fun a3 =>
    bd (sF M2 387 a3 (some (mT M))) fun M4 =>
    rd r0 6 M4 fun a5 =>
    bd (sI M4 389 a5 (-1)) fun M6 =>
    rd r0 6 M6 fun a7 =>
    bd (sI M6 384 a7 p0) fun M8 =>
    rd r0 6 M8 fun a9 =>
    bd (sI M8 385 a9 p1) fun M10 =>
    rd r0 6 M10 fun a11 =>
    bd (sF M10 386 a11 p2) fun M12 =>
    some (none, M12))) := (rn_un PP [] 59 20 0 _ [] M).trans rfl
set_option maxRecDepth 100000 in
set_option maxHeartbeats 4000000 in
theorem tX6_keptAs (r0 : Option Nat) (p0 : Int64) (M : Mem) : ex 60 4 [pR r0, pJ p0] M =
    rn PP 60 2 [some (pR r0), some (pJ p0), none, some (pI 0)] [] M := (rn_un PP [2] 60 4 0 _ [] M).trans rfl
set_option maxRecDepth 100000 in
set_option maxHeartbeats 4000000 in
theorem tX6_keptAs_2 (l0 : Option Nat) (l1 : Int64) (l3 : Int32) (M : Mem) : rn PP 60 2 [some (pR l0), some (pJ l1), none, some (pI l3)] [] M =
    rd l0 6 M fun a1 =>
    al (gR M 386 a1) M fun a2 =>
    if nI (ln M a2) ≤ l3 then
      some (some (pR (none : Option Nat)), M)
    else
      rd l0 6 M fun a3 =>
      ix 23 24 (gR M 386 a3) l3 M fun a4 j5 =>
      rd (aR M a4 j5) 5 M fun a6 =>
      if ¬ lg_cmp (gJ M 320 a6) l1 = 0 then
        rn PP 60 2 [some (pR l0), some (pJ l1), none, some (pI (l3 + 1))] [] M
      else
        rd l0 6 M fun a7 =>
        ix 23 24 (gR M 386 a7) l3 M fun a8 j9 =>
        some (some (pR (aR M a8 j9)), M) := (rn_un PP [2] 60 19 2 _ _ M).trans rfl
set_option maxRecDepth 100000 in
set_option maxHeartbeats 4000000 in
theorem tX6_unload (r0 : Option Nat) (M : Mem) : ex 61 2 [pR r0] M =
    rd r0 6 M fun a1 =>
    bd (sI M 389 a1 (-1)) fun M2 =>
    rn PP 61 7 [some (pR r0), some (pI 0)] [] M2 := (rn_un PP [7] 61 7 0 _ [] M).trans rfl
set_option maxRecDepth 100000 in
set_option maxHeartbeats 4000000 in
theorem tX6_unload_7 (l0 : Option Nat) (l1 : Int32) (M : Mem) : rn PP 61 7 [some (pR l0), some (pI l1)] [] M =
    rd l0 6 M fun a1 =>
    al (gR M 386 a1) M fun a2 =>
    if nI (ln M a2) ≤ l1 then
      some (none, M)
    else
      rd l0 6 M fun a3 =>
      ix 23 24 (gR M 386 a3) l1 M fun a4 j5 =>
      rd (aR M a4 j5) 5 M fun a6 =>
      bd (sI M 325 a6 (-1)) fun M7 =>
      rn PP 61 7 [some (pR l0), some (pI (l1 + 1))] [] M7 := (rn_un PP [7] 61 15 7 _ _ M).trans rfl
set_option maxRecDepth 100000 in
set_option maxHeartbeats 4000000 in
theorem tX7_init (r0 : Option Nat) (M : Mem) : ex 62 1 [pR r0] M =
    nn r0
    (gd (¬ (6 : Int32) < 0 ∧ (6 : Int32).toNatClampNeg ≤ 60000000)
    (bd (nA M 21 (6 : Int32).toNatClampNeg) fun M2 =>
    rd r0 7 M2 fun a3 =>
    bd (sF M2 449 a3 (some (mT M))) fun M4 =>
    some (none, M4))) := (rn_un PP [] 62 8 0 _ [] M).trans rfl
set_option maxRecDepth 100000 in
set_option maxHeartbeats 4000000 in
theorem tX8_init (r0 : Option Nat) (p0 : Int64) (p1 : Int32) (p2 : Int32) (p3 : Int64) (M : Mem) : ex 63 7 [pR r0, pJ p0, pI p1, pI p2, pJ p3] M =
    nn r0
    (rd r0 8 M fun a2 =>
    bd (sJ M 512 a2 p0) fun M3 =>
    rd r0 8 M3 fun a4 =>
    bd (sI M3 513 a4 p1) fun M5 =>
    rd r0 8 M5 fun a6 =>
    bd (sI M5 514 a6 p2) fun M7 =>
    if 7 < p1 then
      if ¬ p1 = 9 then
        rd r0 8 M7 fun a8 =>
        bd (sJ M7 515 a8 (-1 : Int64)) fun M9 =>
        some (none, M9)
      else
        rd r0 8 M7 fun a10 =>
        bd (sJ M7 515 a10 (0 : Int64)) fun M11 =>
        some (none, M11)
    else
      clJ (ex 31 3 [pI p1, pJ p3] M7) fun r13 M12 =>
      rd r0 8 M12 fun a14 =>
      bd (sJ M12 515 a14 r13) fun M15 =>
      some (none, M15)) := (rn_un PP [] 63 23 0 _ [] M).trans rfl
set_option maxRecDepth 100000 in
set_option maxHeartbeats 4000000 in
theorem tX9_init (r0 : Option Nat) (M : Mem) : ex 64 1 [pR r0] M =
    nn r0
    (bd (nO M 0 3) fun M2 =>
    rd (some (mT M)) 0 M2 fun a4 =>
    clV (ex 11 1 [pR (some a4)] M2) fun M3 =>
    rd r0 9 M3 fun a5 =>
    bd (sF M3 576 a5 (some (mT M))) fun M6 =>
    bd (nO M6 0 3) fun M7 =>
    rd (some (mT M6)) 0 M7 fun a9 =>
    clV (ex 11 1 [pR (some a9)] M7) fun M8 =>
    rd r0 9 M8 fun a10 =>
    bd (sF M8 577 a10 (some (mT M6))) fun M11 =>
    some (none, M11)) := (rn_un PP [] 64 14 0 _ [] M).trans rfl
set_option maxRecDepth 100000 in
set_option maxHeartbeats 4000000 in
theorem tX9_partAt (r0 : Option Nat) (p0 : Int32) (M : Mem) : ex 65 2 [pR r0, pI p0] M =
    if p0 < 0 then
      some (some (pR (none : Option Nat)), M)
    else
      rd r0 9 M fun a1 =>
      rd (gR M 576 a1) 0 M fun a3 =>
      clI (ex 14 1 [pR (some a3)] M) fun r4 M2 =>
      if r4 ≤ p0 then
        some (some (pR (none : Option Nat)), M2)
      else
        rd r0 9 M2 fun a5 =>
        rd (gR M2 576 a5) 0 M2 fun a7 =>
        clR (ex 16 2 [pR (some a7), pI p0] M2) fun r8 M6 =>
        ck r8 8 M6
        (some (some (pR r8), M6)) := (rn_un PP [] 65 15 0 _ [] M).trans rfl
set_option maxRecDepth 100000 in
set_option maxHeartbeats 4000000 in
theorem tX9_hasPart (r0 : Option Nat) (p0 : Int64) (M : Mem) : ex 66 4 [pR r0, pJ p0] M =
    rn PP 66 2 [some (pR r0), some (pJ p0), none, some (pI 0)] [] M := (rn_un PP [2] 66 4 0 _ [] M).trans rfl
set_option maxRecDepth 100000 in
set_option maxHeartbeats 4000000 in
theorem tX9_hasPart_2 (l0 : Option Nat) (l1 : Int64) (l3 : Int32) (M : Mem) : rn PP 66 2 [some (pR l0), some (pJ l1), none, some (pI l3)] [] M =
    rd l0 9 M fun a1 =>
    rd (gR M 576 a1) 0 M fun a3 =>
    clI (ex 14 1 [pR (some a3)] M) fun r4 M2 =>
    if r4 ≤ l3 then
      zo 0 (some (some (pI 0), M2))
    else
      rd l0 9 M2 fun a5 =>
      rd (gR M2 576 a5) 0 M2 fun a7 =>
      clR (ex 16 2 [pR (some a7), pI l3] M2) fun r8 M6 =>
      ck r8 8 M6
      (rd r8 8 M6 fun a9 =>
      if ¬ lg_cmp (gJ M6 512 a9) l1 = 0 then
        rn PP 66 2 [some (pR l0), some (pJ l1), none, some (pI (l3 + 1))] [] M6
      else
        zo 1 (some (some (pI 1), M6))) := (rn_un PP [2] 66 18 2 _ _ M).trans rfl
set_option maxRecDepth 100000 in
set_option maxHeartbeats 4000000 in
theorem tX9_dropChecks (r0 : Option Nat) (p0 : Int32) (M : Mem) : ex 67 3 [pR r0, pI p0] M =
    rd r0 9 M fun a1 =>
    rd (gR M 577 a1) 0 M fun a3 =>
    clI (ex 14 1 [pR (some a3)] M) fun r4 M2 =>
    rn PP 67 10 [some (pR r0), some (pI p0), some (pI (r4 - 1))] [] M2 := (rn_un PP [10] 67 8 0 _ [] M).trans rfl
set_option maxRecDepth 100000 in
set_option maxHeartbeats 4000000 in
theorem tX9_dropChecks_10 (l0 : Option Nat) (l1 : Int32) (l2 : Int32) (M : Mem) : rn PP 67 10 [some (pR l0), some (pI l1), some (pI l2)] [] M =
    if l2 < 0 then
      some (none, M)
    else
      rd l0 9 M fun a1 =>
      rd (gR M 577 a1) 0 M fun a3 =>
      clR (ex 16 2 [pR (some a3), pI l2] M) fun r4 M2 =>
      ck r4 1 M2
      (rd r4 1 M2 fun a5 =>
      if ¬ gI M2 64 a5 = l1 then
        rn PP 67 10 [some (pR l0), some (pI l1), some (pI (l2 + (-1)))] [] M2
      else
        rd l0 9 M2 fun a6 =>
        rd (gR M2 577 a6) 0 M2 fun a8 =>
        clR (ex 20 4 [pR (some a8), pI l2] M2) fun r9 M7 =>
        rn PP 67 10 [some (pR l0), some (pI l1), some (pI (l2 + (-1)))] [] M7) := (rn_un PP [10] 67 19 10 _ _ M).trans rfl
set_option maxRecDepth 100000 in
set_option maxHeartbeats 4000000 in
theorem tX9_moveChecks (r0 : Option Nat) (p0 : Int32) (M : Mem) : ex 68 3 [pR r0, pI p0] M =
    rn PP 68 2 [some (pR r0), some (pI p0), some (pI 0)] [] M := (rn_un PP [2] 68 4 0 _ [] M).trans rfl
set_option maxRecDepth 100000 in
set_option maxHeartbeats 4000000 in
theorem tX9_moveChecks_2 (l0 : Option Nat) (l1 : Int32) (l2 : Int32) (M : Mem) : rn PP 68 2 [some (pR l0), some (pI l1), some (pI l2)] [] M =
    rd l0 9 M fun a1 =>
    rd (gR M 577 a1) 0 M fun a3 =>
    clI (ex 14 1 [pR (some a3)] M) fun r4 M2 =>
    if r4 ≤ l2 then
      some (none, M2)
    else
      rd l0 9 M2 fun a5 =>
      rd (gR M2 577 a5) 0 M2 fun a7 =>
      clR (ex 16 2 [pR (some a7), pI l2] M2) fun r8 M6 =>
      ck r8 1 M6
      (rd r8 1 M6 fun a9 =>
      if gI M6 64 a9 ≤ l1 then
        rn PP 68 2 [some (pR l0), some (pI l1), some (pI (l2 + 1))] [] M6
      else
        rd l0 9 M6 fun a10 =>
        rd (gR M6 577 a10) 0 M6 fun a12 =>
        clR (ex 16 2 [pR (some a12), pI l2] M6) fun r13 M11 =>
        ck r13 1 M11
        (rd r13 1 M11 fun a14 =>
        rd r13 1 M11 fun a15 =>
        bd (sI M11 64 a15 (gI M11 64 a14 - 1)) fun M16 =>
        rn PP 68 2 [some (pR l0), some (pI l1), some (pI (l2 + 1))] [] M16)) := (rn_un PP [2] 68 27 2 _ _ M).trans rfl
set_option maxRecDepth 100000 in
set_option maxHeartbeats 4000000 in
theorem tX10_init (r0 : Option Nat) (M : Mem) : ex 69 1 [pR r0] M =
    nn r0
    (gd (¬ (16 : Int32) < 0 ∧ (16 : Int32).toNatClampNeg ≤ 60000000)
    (bd (nA M 21 (16 : Int32).toNatClampNeg) fun M2 =>
    rd r0 10 M2 fun a3 =>
    bd (sF M2 642 a3 (some (mT M))) fun M4 =>
    some (none, M4))) := (rn_un PP [] 69 8 0 _ [] M).trans rfl
set_option maxRecDepth 100000 in
set_option maxHeartbeats 4000000 in
theorem tX10_reuse (r0 : Option Nat) (p0 : Int32) (p1 : Int32) (M : Mem) : ex 70 3 [pR r0, pI p0, pI p1] M =
    rd r0 10 M fun a1 =>
    bd (sI M 640 a1 p0) fun M2 =>
    rd r0 10 M2 fun a3 =>
    bd (sI M2 641 a3 p1) fun M4 =>
    rd r0 10 M4 fun a5 =>
    clV (ex 22 5 [pR (gR M4 642 a5), pJ (0 : Int64)] M4) fun M6 =>
    some (none, M6) := (rn_un PP [] 70 12 0 _ [] M).trans rfl
set_option maxRecDepth 100000 in
set_option maxHeartbeats 4000000 in
theorem tX10_hasItem (r0 : Option Nat) (p0 : Int64) (M : Mem) : ex 71 3 [pR r0, pJ p0] M =
    if lg_cmp p0 (0 : Int64) < 0 then
      zo 0 (some (some (pI 0), M))
    else
      rd r0 10 M fun a1 =>
      if 0 ≤ lg_cmp p0 ((gI M 641 a1).toInt64) then
        zo 0 (some (some (pI 0), M))
      else
        zo 1 (some (some (pI 1), M)) := (rn_un PP [] 71 14 0 _ [] M).trans rfl
