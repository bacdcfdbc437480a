/-! the methods as pure terms: printed by wip/whole/gen/gen_t.py -/
set_option maxRecDepth 100000 in
set_option maxHeartbeats 4000000 in
theorem tX12_init (r0 : Option Nat) (M : Mem) : ex 156 1 [pR r0] M =
    nn r0
    (gd (¬ (4 : Int32) < 0 ∧ (4 : Int32).toNatClampNeg ≤ 60000000)
    (bd (nA M 20 (4 : Int32).toNatClampNeg) fun M2 =>
    rd r0 12 M2 fun a3 =>
    bd (sF M2 769 a3 (some (mT M))) fun M4 =>
    gd (¬ (32 : Int32) < 0 ∧ (32 : Int32).toNatClampNeg ≤ 60000000)
    (bd (nA M4 21 (32 : Int32).toNatClampNeg) fun M5 =>
    rd r0 12 M5 fun a6 =>
    bd (sF M5 770 a6 (some (mT M4))) fun M7 =>
    gd (¬ (32 : Int32) < 0 ∧ (32 : Int32).toNatClampNeg ≤ 60000000)
    (bd (nA M7 22 (32 : Int32).toNatClampNeg) fun M8 =>
    rd r0 12 M8 fun a9 =>
    bd (sF M8 771 a9 (some (mT M7))) fun M10 =>
    gd (¬ (4 : Int32) < 0 ∧ (4 : Int32).toNatClampNeg ≤ 60000000)
    (bd (nA M10 22 (4 : Int32).toNatClampNeg) fun M11 =>
    rd r0 12 M11 fun a12 =>
    bd (sF M11 772 a12 (some (mT M10))) fun M13 =>
    gd (¬ (6 : Int32) < 0 ∧ (6 : Int32).toNatClampNeg ≤ 60000000)
    (bd (nA M13 20 (6 : Int32).toNatClampNeg) fun M14 =>
    rd r0 12 M14 fun a15 =>
    bd (sF M14 774 a15 (some (mT M13))) fun M16 =>
    gd (¬ (36 : Int32) < 0 ∧ (36 : Int32).toNatClampNeg ≤ 60000000)
    (bd (nA M16 21 (36 : Int32).toNatClampNeg) fun M17 =>
    rd r0 12 M17 fun a18 =>
    bd (sF M17 775 a18 (some (mT M16))) fun M19 =>
    gd (¬ (36 : Int32) < 0 ∧ (36 : Int32).toNatClampNeg ≤ 60000000)
    (bd (nA M19 20 (36 : Int32).toNatClampNeg) fun M20 =>
    rd r0 12 M20 fun a21 =>
    bd (sF M20 776 a21 (some (mT M19))) fun M22 =>
    gd (¬ (36 : Int32) < 0 ∧ (36 : Int32).toNatClampNeg ≤ 60000000)
    (bd (nA M22 20 (36 : Int32).toNatClampNeg) fun M23 =>
    rd r0 12 M23 fun a24 =>
    bd (sF M23 777 a24 (some (mT M22))) fun M25 =>
    gd (¬ (36 : Int32) < 0 ∧ (36 : Int32).toNatClampNeg ≤ 60000000)
    (bd (nA M25 21 (36 : Int32).toNatClampNeg) fun M26 =>
    rd r0 12 M26 fun a27 =>
    bd (sF M26 778 a27 (some (mT M25))) fun M28 =>
    gd (¬ (6 : Int32) < 0 ∧ (6 : Int32).toNatClampNeg ≤ 60000000)
    (bd (nA M28 20 (6 : Int32).toNatClampNeg) fun M29 =>
    rd r0 12 M29 fun a30 =>
    bd (sF M29 779 a30 (some (mT M28))) fun M31 =>
    gd (¬ (24 : Int32) < 0 ∧ (24 : Int32).toNatClampNeg ≤ 60000000)
    (bd (nA M31 20 (24 : Int32).toNatClampNeg) fun M32 =>
    rd r0 12 M32 fun a33 =>
    bd (sF M32 780 a33 (some (mT M31))) fun M34 =>
    gd (¬ (24 : Int32) < 0 ∧ (24 : Int32).toNatClampNeg ≤ 60000000)
    (bd (nA M34 20 (24 : Int32).toNatClampNeg) fun M35 =>
    rd r0 12 M35 fun a36 =>
    bd (sF M35 781 a36 (some (mT M34))) fun M37 =>
    gd (¬ (24 : Int32) < 0 ∧ (24 : Int32).toNatClampNeg ≤ 60000000)
    (bd (nA M37 21 (24 : Int32).toNatClampNeg) fun M38 =>
    rd r0 12 M38 fun a39 =>
    bd (sF M38 782 a39 (some (mT M37))) fun M40 =>
    gd (¬ (24 : Int32) < 0 ∧ (24 : Int32).toNatClampNeg ≤ 60000000)
    (bd (nA M40 21 (24 : Int32).toNatClampNeg) fun M41 =>
    rd r0 12 M41 fun a42 =>
    bd (sF M41 783 a42 (some (mT M40))) fun M43 =>
    gd (¬ (3 : Int32) < 0 ∧ (3 : Int32).toNatClampNeg ≤ 60000000)
    (bd (nA M43 20 (3 : Int32).toNatClampNeg) fun M44 =>
    rd r0 12 M44 fun a45 =>
    bd (sF M44 785 a45 (some (mT M43))) fun M46 =>
    gd (¬ (12 : Int32) < 0 ∧ (12 : Int32).toNatClampNeg ≤ 60000000)
    (bd (nA M46 20 (12 : Int32).toNatClampNeg) fun M47 =>
    rd r0 12 M47 fun a48 =>
    bd (sF M47 786 a48 (some (mT M46))) fun M49 =>
    gd (¬ (6 : Int32) < 0 ∧ (6 : Int32).toNatClampNeg ≤ 60000000)
    (bd (nA M49 20 (6 : Int32).toNatClampNeg) fun M50 =>
    rd r0 12 M50 fun a51 =>
    bd (sF M50 787 a51 (some (mT M49))) fun M52 =>
    gd (¬ (40 : Int32) < 0 ∧ (40 : Int32).toNatClampNeg ≤ 60000000)
    (bd (nA M52 20 (40 : Int32).toNatClampNeg) fun M53 =>
    rd r0 12 M53 fun a54 =>
    bd (sF M53 789 a54 (some (mT M52))) fun M55 =>
    gd (¬ (14 : Int32) < 0 ∧ (14 : Int32).toNatClampNeg ≤ 60000000)
    (bd (nA M55 22 (14 : Int32).toNatClampNeg) fun M56 =>
    rd r0 12 M56 fun a57 =>
    bd (sF M56 795 a57 (some (mT M55))) fun M58 =>
    gd (¬ (4 : Int32) < 0 ∧ (4 : Int32).toNatClampNeg ≤ 60000000)
    (bd (nA M58 22 (4 : Int32).toNatClampNeg) fun M59 =>
    rd r0 12 M59 fun a60 =>
    bd (sF M59 796 a60 (some (mT M58))) fun M61 =>
    gd (¬ (10 : Int32) < 0 ∧ (10 : Int32).toNatClampNeg ≤ 60000000)
    (bd (nA M61 20 (10 : Int32).toNatClampNeg) fun M62 =>
    rd r0 12 M62 fun a63 =>
    bd (sF M62 797 a63 (some (mT M61))) fun M64 =>
    gd (¬ (440 : Int32) < 0 ∧ (440 : Int32).toNatClampNeg ≤ 60000000)
    (bd (nA M64 20 (440 : Int32).toNatClampNeg) fun M65 =>
    rd r0 12 M65 fun a66 =>
    bd (sF M65 799 a66 (some (mT M64))) fun M67 =>
    gd (¬ (440 : Int32) < 0 ∧ (440 : Int32).toNatClampNeg ≤ 60000000)
    (bd (nA M67 20 (440 : Int32).toNatClampNeg) fun M68 =>
    rd r0 12 M68 fun a69 =>
    bd (sF M68 800 a69 (some (mT M67))) fun M70 =>
    gd (¬ (7040 : Int32) < 0 ∧ (7040 : Int32).toNatClampNeg ≤ 60000000)
    (bd (nA M70 21 (7040 : Int32).toNatClampNeg) fun M71 =>
    rd r0 12 M71 fun a72 =>
    bd (sF M71 801 a72 (some (mT M70))) fun M73 =>
    gd (¬ (164 : Int32) < 0 ∧ (164 : Int32).toNatClampNeg ≤ 60000000)
    (bd (nA M73 20 (164 : Int32).toNatClampNeg) fun M74 =>
    rd r0 12 M74 fun a75 =>
    bd (sF M74 802 a75 (some (mT M73))) fun M76 =>
    gd (¬ (984 : Int32) < 0 ∧ (984 : Int32).toNatClampNeg ≤ 60000000)
    (bd (nA M76 21 (984 : Int32).toNatClampNeg) fun M77 =>
    rd r0 12 M77 fun a78 =>
    bd (sF M77 803 a78 (some (mT M76))) fun M79 =>
    gd (¬ (164 : Int32) < 0 ∧ (164 : Int32).toNatClampNeg ≤ 60000000)
    (bd (nA M79 20 (164 : Int32).toNatClampNeg) fun M80 =>
    rd r0 12 M80 fun a81 =>
    bd (sF M80 804 a81 (some (mT M79))) fun M82 =>
    gd (¬ (6 : Int32) < 0 ∧ (6 : Int32).toNatClampNeg ≤ 60000000)
    (bd (nA M82 21 (6 : Int32).toNatClampNeg) fun M83 =>
    rd r0 12 M83 fun a84 =>
    bd (sF M83 805 a84 (some (mT M82))) fun M85 =>
    gd (¬ (6 : Int32) < 0 ∧ (6 : Int32).toNatClampNeg ≤ 60000000)
    (bd (nA M85 21 (6 : Int32).toNatClampNeg) fun M86 =>
    rd r0 12 M86 fun a87 =>
    bd (sF M86 806 a87 (some (mT M85))) fun M88 =>
    rd r0 12 M88 fun a89 =>
    bd (sI M88 808 a89 (-1)) fun M90 =>
    rd r0 12 M90 fun a91 =>
    bd (sI M90 809 a91 (-1)) fun M92 =>
    rd r0 12 M92 fun a93 =>
    bd (sI M92 810 a93 (-1)) fun M94 =>
    rd r0 12 M94 fun a95 =>
    bd (sI M94 811 a95 (-1)) fun M96 =>
    gd (¬ (164 : Int32) < 0 ∧ (164 : Int32).toNatClampNeg ≤ 60000000)
    (bd (nA M96 20 (164 : Int32).toNatClampNeg) fun M97 =>
    rd r0 12 M97 fun a98 =>
    bd (sF M97 812 a98 (some (mT M96))) fun M99 =>
    gd (¬ (64 : Int32) < 0 ∧ (64 : Int32).toNatClampNeg ≤ 60000000)
    (bd (nA M99 20 (64 : Int32).toNatClampNeg) fun M100 =>
    rd r0 12 M100 fun a101 =>
    bd (sF M100 814 a101 (some (mT M99))) fun M102 =>
    gd (¬ (64 : Int32) < 0 ∧ (64 : Int32).toNatClampNeg ≤ 60000000)
    (bd (nA M102 20 (64 : Int32).toNatClampNeg) fun M103 =>
    rd r0 12 M103 fun a104 =>
    bd (sF M103 815 a104 (some (mT M102))) fun M105 =>
    gd (¬ (64 : Int32) < 0 ∧ (64 : Int32).toNatClampNeg ≤ 60000000)
    (bd (nA M105 20 (64 : Int32).toNatClampNeg) fun M106 =>
    rd r0 12 M106 fun a107 =>
    bd (sF M106 816 a107 (some (mT M105))) fun M108 =>
    gd (¬ (384 : Int32) < 0 ∧ (384 : Int32).toNatClampNeg ≤ 60000000)
    (bd (nA M108 21 (384 : Int32).toNatClampNeg) fun M109 =>
    rd r0 12 M109 fun a110 =>
    bd (sF M109 817 a110 (some (mT M108))) fun M111 =>
    gd (¬ (384 : Int32) < 0 ∧ (384 : Int32).toNatClampNeg ≤ 60000000)
    (bd (nA M111 20 (384 : Int32).toNatClampNeg) fun M112 =>
    rd r0 12 M112 fun a113 =>
    bd (sF M112 818 a113 (some (mT M111))) fun M114 =>
    gd (¬ (384 : Int32) < 0 ∧ (384 : Int32).toNatClampNeg ≤ 60000000)
    (bd (nA M114 20 (384 : Int32).toNatClampNeg) fun M115 =>
    rd r0 12 M115 fun a116 =>
    bd (sF M115 819 a116 (some (mT M114))) fun M117 =>
    gd (¬ (384 : Int32) < 0 ∧ (384 : Int32).toNatClampNeg ≤ 60000000)
    (bd (nA M117 21 (384 : Int32).toNatClampNeg) fun M118 =>
    rd r0 12 M118 fun a119 =>
    bd (sF M118 820 a119 (some (mT M117))) fun M120 =>
    gd (¬ (6144 : Int32) < 0 ∧ (6144 : Int32).toNatClampNeg ≤ 60000000)
    (bd (nA M120 21 (6144 : Int32).toNatClampNeg) fun M121 =>
    rd r0 12 M121 fun a122 =>
    bd (sF M121 821 a122 (some (mT M120))) fun M123 =>
    gd (¬ (384 : Int32) < 0 ∧ (384 : Int32).toNatClampNeg ≤ 60000000)
    (bd (nA M123 20 (384 : Int32).toNatClampNeg) fun M124 =>
    rd r0 12 M124 fun a125 =>
    bd (sF M124 822 a125 (some (mT M123))) fun M126 =>
    gd (¬ (64 : Int32) < 0 ∧ (64 : Int32).toNatClampNeg ≤ 60000000)
    (bd (nA M126 20 (64 : Int32).toNatClampNeg) fun M127 =>
    rd r0 12 M127 fun a128 =>
    bd (sF M127 823 a128 (some (mT M126))) fun M129 =>
    gd (¬ (384 : Int32) < 0 ∧ (384 : Int32).toNatClampNeg ≤ 60000000)
    (bd (nA M129 20 (384 : Int32).toNatClampNeg) fun M130 =>
    rd r0 12 M130 fun a131 =>
    bd (sF M130 824 a131 (some (mT M129))) fun M132 =>
    gd (¬ (170 : Int32) < 0 ∧ (170 : Int32).toNatClampNeg ≤ 60000000)
    (bd (nA M132 20 (170 : Int32).toNatClampNeg) fun M133 =>
    rd r0 12 M133 fun a134 =>
    bd (sF M133 825 a134 (some (mT M132))) fun M135 =>
    gd (¬ (170 : Int32) < 0 ∧ (170 : Int32).toNatClampNeg ≤ 60000000)
    (bd (nA M135 20 (170 : Int32).toNatClampNeg) fun M136 =>
    rd r0 12 M136 fun a137 =>
    bd (sF M136 826 a137 (some (mT M135))) fun M138 =>
    gd (¬ (164 : Int32) < 0 ∧ (164 : Int32).toNatClampNeg ≤ 60000000)
    (bd (nA M138 22 (164 : Int32).toNatClampNeg) fun M139 =>
    rd r0 12 M139 fun a140 =>
    bd (sF M139 827 a140 (some (mT M138))) fun M141 =>
    gd (¬ (384 : Int32) < 0 ∧ (384 : Int32).toNatClampNeg ≤ 60000000)
    (bd (nA M141 21 (384 : Int32).toNatClampNeg) fun M142 =>
    rd r0 12 M142 fun a143 =>
    bd (sF M142 829 a143 (some (mT M141))) fun M144 =>
    rd r0 12 M144 fun a145 =>
    bd (sI M144 790 a145 0) fun M146 =>
    some (none, M146))))))))))))))))))))))))))))))))))))))))))))))) := (rn_un PP [] 156 199 0 _ [] M).trans rfl
set_option maxRecDepth 100000 in
set_option maxHeartbeats 4000000 in
theorem tX12_in (p0 : Int64) (p1 : Int64) (p2 : Int64) (M : Mem) : ex 157 6 [pJ p0, pJ p1, pJ p2] M =
    if lg_cmp p0 p1 < 0 then
      zo 0 (some (some (pI 0), M))
    else
      if 0 < lg_cmp p0 p2 then
        zo 0 (some (some (pI 0), M))
      else
        zo 1 (some (some (pI 1), M)) := (rn_un PP [] 157 12 0 _ [] M).trans rfl
set_option maxRecDepth 100000 in
set_option maxHeartbeats 4000000 in
theorem tX12_isName (p0 : Int64) (M : Mem) : ex 158 7 [pJ p0] M =
    clI (ex 157 6 [pJ (p0 &&& (255 : Int64)), pJ (97 : Int64), pJ (122 : Int64)] M) fun r2 M1 =>
    rn PP 158 20 [some (pJ p0), none, some (pI 0), some (pI r2), some (pI 0), none, none] [] M1 := (rn_un PP [20] 158 13 0 _ [] M).trans rfl
set_option maxRecDepth 100000 in
set_option maxHeartbeats 4000000 in
theorem tX12_isName_20 (l0 : Int64) (l2 : Int32) (l3 : Int32) (l4 : Int32) (M : Mem) : rn PP 158 20 [some (pJ l0), none, some (pI l2), some (pI l3), some (pI l4), none, none] [] M =
    if 8 ≤ l4 then
      zo l3 (some (some (pI l3), M))
    else
      if ¬ l2 = 0 then
        if l3 = 0 then
          rn PP 158 20 [some (pJ l0), none, some (pI 1), some (pI 0), some (pI (l4 + 1)), none, none] [] M
        else
          if (1 : Int32) = 0 then
            clI (ex 157 6 [pJ ((l0.toUInt64 >>> ((8 * l4).toInt64.toUInt64 &&& Int64.toUInt64 63)).toInt64 &&& (255 : Int64)), pJ (97 : Int64), pJ (122 : Int64)] M) fun r2 M1 =>
            if r2 = 0 then
              rn PP 158 20 [some (pJ l0), none, some (pI 1), some (pI 0), some (pI (l4 + 1)), none, none] [] M1
            else
              rn PP 158 20 [some (pJ l0), none, some (pI 1), some (pI 1), some (pI (l4 + 1)), none, none] [] M1
          else
            if ¬ lg_cmp ((l0.toUInt64 >>> ((8 * l4).toInt64.toUInt64 &&& Int64.toUInt64 63)).toInt64 &&& (255 : Int64)) (0 : Int64) = 0 then
              rn PP 158 20 [some (pJ l0), none, some (pI 1), some (pI 0), some (pI (l4 + 1)), none, none] [] M
            else
              rn PP 158 20 [some (pJ l0), none, some (pI 1), some (pI 1), some (pI (l4 + 1)), none, none] [] M
      else
        if ¬ lg_cmp ((l0.toUInt64 >>> ((8 * l4).toInt64.toUInt64 &&& Int64.toUInt64 63)).toInt64 &&& (255 : Int64)) (0 : Int64) = 0 then
          if l3 = 0 then
            rn PP 158 20 [some (pJ l0), none, some (pI 0), some (pI 0), some (pI (l4 + 1)), none, none] [] M
          else
            if (0 : Int32) = 0 then
              clI (ex 157 6 [pJ ((l0.toUInt64 >>> ((8 * l4).toInt64.toUInt64 &&& Int64.toUInt64 63)).toInt64 &&& (255 : Int64)), pJ (97 : Int64), pJ (122 : Int64)] M) fun r4 M3 =>
              if r4 = 0 then
                rn PP 158 20 [some (pJ l0), none, some (pI 0), some (pI 0), some (pI (l4 + 1)), none, none] [] M3
              else
                rn PP 158 20 [some (pJ l0), none, some (pI 0), some (pI 1), some (pI (l4 + 1)), none, none] [] M3
            else
              if ¬ lg_cmp ((l0.toUInt64 >>> ((8 * l4).toInt64.toUInt64 &&& Int64.toUInt64 63)).toInt64 &&& (255 : Int64)) (0 : Int64) = 0 then
                rn PP 158 20 [some (pJ l0), none, some (pI 0), some (pI 0), some (pI (l4 + 1)), none, none] [] M
              else
                rn PP 158 20 [some (pJ l0), none, some (pI 0), some (pI 1), some (pI (l4 + 1)), none, none] [] M
        else
          if l3 = 0 then
            rn PP 158 20 [some (pJ l0), none, some (pI 1), some (pI 0), some (pI (l4 + 1)), none, none] [] M
          else
            if (1 : Int32) = 0 then
              clI (ex 157 6 [pJ ((l0.toUInt64 >>> ((8 * l4).toInt64.toUInt64 &&& Int64.toUInt64 63)).toInt64 &&& (255 : Int64)), pJ (97 : Int64), pJ (122 : Int64)] M) fun r6 M5 =>
              if r6 = 0 then
                rn PP 158 20 [some (pJ l0), none, some (pI 1), some (pI 0), some (pI (l4 + 1)), none, none] [] M5
              else
                rn PP 158 20 [some (pJ l0), none, some (pI 1), some (pI 1), some (pI (l4 + 1)), none, none] [] M5
            else
              if ¬ lg_cmp ((l0.toUInt64 >>> ((8 * l4).toInt64.toUInt64 &&& Int64.toUInt64 63)).toInt64 &&& (255 : Int64)) (0 : Int64) = 0 then
                rn PP 158 20 [some (pJ l0), none, some (pI 1), some (pI 0), some (pI (l4 + 1)), none, none] [] M
              else
                rn PP 158 20 [some (pJ l0), none, some (pI 1), some (pI 1), some (pI (l4 + 1)), none, none] [] M := (rn_un PP [20] 158 36 20 _ _ M).trans rfl
set_option maxRecDepth 100000 in
set_option maxHeartbeats 4000000 in
theorem tX12_isEnum (r0 : Option Nat) (p0 : Int32) (M : Mem) : ex 159 2 [pR r0, pI p0] M =
    rd r0 12 M fun a1 =>
    clI (ex 157 6 [pJ p0.toInt64, pJ (0 : Int64), pJ ((gI M 768 a1 - 1).toInt64)] M) fun r3 M2 =>
    zo r3 (some (some (pI r3), M2)) := (rn_un PP [] 159 11 0 _ [] M).trans rfl
set_option maxRecDepth 100000 in
set_option maxHeartbeats 4000000 in
theorem tX12_isConstant (r0 : Option Nat) (p0 : Int32) (p1 : Int32) (M : Mem) : ex 160 3 [pR r0, pI p0, pI p1] M =
    rd r0 12 M fun a2 =>
    clI (ex 159 2 [pR (some a2), pI p0] M) fun r3 M1 =>
    if r3 = 0 then
      zo 0 (some (some (pI 0), M1))
    else
      rd r0 12 M1 fun a4 =>
      ix 20 30 (gR M1 769 a4) p0 M1 fun a5 j6 =>
      clI (ex 157 6 [pJ p1.toInt64, pJ (0 : Int64), pJ ((aI M1 a5 j6 - 1).toInt64)] M1) fun r8 M7 =>
      if r8 = 0 then
        zo 0 (some (some (pI 0), M7))
      else
        zo 1 (some (some (pI 1), M7)) := (rn_un PP [] 160 20 0 _ [] M).trans rfl
set_option maxRecDepth 100000 in
set_option maxHeartbeats 4000000 in
theorem tX12_isRecord (r0 : Option Nat) (p0 : Int32) (M : Mem) : ex 161 2 [pR r0, pI p0] M =
    rd r0 12 M fun a1 =>
    clI (ex 157 6 [pJ p0.toInt64, pJ (0 : Int64), pJ ((gI M 773 a1 - 1).toInt64)] M) fun r3 M2 =>
    zo r3 (some (some (pI r3), M2)) := (rn_un PP [] 161 11 0 _ [] M).trans rfl
set_option maxRecDepth 100000 in
set_option maxHeartbeats 4000000 in
theorem tX12_isPart (r0 : Option Nat) (p0 : Int32) (p1 : Int32) (M : Mem) : ex 162 3 [pR r0, pI p0, pI p1] M =
    rd r0 12 M fun a2 =>
    clI (ex 161 2 [pR (some a2), pI p0] M) fun r3 M1 =>
    if r3 = 0 then
      zo 0 (some (some (pI 0), M1))
    else
      rd r0 12 M1 fun a4 =>
      ix 20 30 (gR M1 774 a4) p0 M1 fun a5 j6 =>
      clI (ex 157 6 [pJ p1.toInt64, pJ (0 : Int64), pJ ((aI M1 a5 j6 - 1).toInt64)] M1) fun r8 M7 =>
      if r8 = 0 then
        zo 0 (some (some (pI 0), M7))
      else
        zo 1 (some (some (pI 1), M7)) := (rn_un PP [] 162 20 0 _ [] M).trans rfl
set_option maxRecDepth 100000 in
set_option maxHeartbeats 4000000 in
theorem tX12_isFamily (r0 : Option Nat) (p0 : Int32) (M : Mem) : ex 163 2 [pR r0, pI p0] M =
    rd r0 12 M fun a1 =>
    clI (ex 157 6 [pJ p0.toInt64, pJ (0 : Int64), pJ ((gI M 784 a1 - 1).toInt64)] M) fun r3 M2 =>
    zo r3 (some (some (pI r3), M2)) := (rn_un PP [] 163 11 0 _ [] M).trans rfl
set_option maxRecDepth 100000 in
set_option maxHeartbeats 4000000 in
theorem tX12_enumeration (r0 : Option Nat) (M : Mem) : ex 164 1 [pR r0] M =
    rd r0 12 M fun a1 =>
    if gI M 791 a1 ≤ 0 then
      rd r0 12 M fun a2 =>
      if ¬ gI M 768 a2 = 4 then
        rd r0 12 M fun a3 =>
        rd r0 12 M fun a4 =>
        bd (sI M 768 a4 (gI M 768 a3 + 1)) fun M5 =>
        rd r0 12 M5 fun a6 =>
        some (some (pI (gI M5 768 a6 - 1)), M5)
      else
        some (some (pI (-3)), M)
    else
      some (some (pI (-2)), M) := (rn_un PP [] 164 19 0 _ [] M).trans rfl
set_option maxRecDepth 100000 in
set_option maxHeartbeats 4000000 in
theorem tX12_ordinal (r0 : Option Nat) (p0 : Int32) (p1 : Int64) (M : Mem) : ex 165 5 [pR r0, pI p0, pJ p1] M =
    rn PP 165 3 [some (pR r0), some (pI p0), some (pJ p1), none, some (pI 0)] [] M := (rn_un PP [3] 165 4 0 _ [] M).trans rfl
set_option maxRecDepth 100000 in
set_option maxHeartbeats 4000000 in
theorem tX12_ordinal_3 (l0 : Option Nat) (l1 : Int32) (l2 : Int64) (l4 : Int32) (M : Mem) : rn PP 165 3 [some (pR l0), some (pI l1), some (pJ l2), none, some (pI l4)] [] M =
    rd l0 12 M fun a1 =>
    ix 20 30 (gR M 769 a1) l1 M fun a2 j3 =>
    if aI M a2 j3 ≤ l4 then
      some (some (pI (-1)), M)
    else
      rd l0 12 M fun a4 =>
      ix 21 21 (gR M 770 a4) ((8 * l1) + l4) M fun a5 j6 =>
      if ¬ lg_cmp (aJ M a5 j6) l2 = 0 then
        rn PP 165 3 [some (pR l0), some (pI l1), some (pJ l2), none, some (pI (l4 + 1))] [] M
      else
        some (some (pI l4), M) := (rn_un PP [3] 165 21 3 _ _ M).trans rfl
set_option maxRecDepth 100000 in
set_option maxHeartbeats 4000000 in
theorem tX12_constant (r0 : Option Nat) (p0 : Int32) (p1 : Int64) (p2 : Int32) (M : Mem) : ex 166 5 [pR r0, pI p0, pJ p1, pI p2] M =
    rd r0 12 M fun a2 =>
    clI (ex 159 2 [pR (some a2), pI p0] M) fun r3 M1 =>
    if r3 = 0 then
      some (some (pI (-1)), M1)
    else
      clI (ex 158 7 [pJ p1] M1) fun r5 M4 =>
      if r5 = 0 then
        some (some (pI (-1)), M4)
      else
        rd r0 12 M4 fun a7 =>
        clI (ex 165 5 [pR (some a7), pI p0, pJ p1] M4) fun r8 M6 =>
        if r8 = (-1) then
          rd r0 12 M6 fun a9 =>
          if gI M6 791 a9 ≤ 0 then
            rd r0 12 M6 fun a10 =>
            ix 20 30 (gR M6 769 a10) p0 M6 fun a11 j12 =>
            if ¬ aI M6 a11 j12 = 8 then
              rd r0 12 M6 fun a13 =>
              rd r0 12 M6 fun a14 =>
              ix 20 30 (gR M6 769 a14) p0 M6 fun a15 j16 =>
              ix 21 21 (gR M6 770 a13) ((8 * p0) + aI M6 a15 j16) M6 fun a17 j18 =>
              bd (wJ M6 a17 j18 p1) fun M19 =>
              rd r0 12 M19 fun a20 =>
              rd r0 12 M19 fun a21 =>
              ix 20 30 (gR M19 769 a21) p0 M19 fun a22 j23 =>
              ix 22 22 (gR M19 771 a20) ((8 * p0) + aI M19 a22 j23) M19 fun a24 j25 =>
              zo p2 (bd (wI M19 a24 j25 p2) fun M26 =>
              rd r0 12 M26 fun a27 =>
              ix 20 30 (gR M26 769 a27) p0 M26 fun a28 j29 =>
              ix 20 20 (gR M26 769 a27) p0 M26 fun a30 j31 =>
              bd (wI M26 a30 j31 (aI M26 a28 j29 + 1)) fun M32 =>
              rd r0 12 M32 fun a33 =>
              ix 20 30 (gR M32 769 a33) p0 M32 fun a34 j35 =>
              some (some (pI (aI M32 a34 j35 - 1)), M32))
            else
              some (some (pI (-3)), M6)
          else
            some (some (pI (-2)), M6)
        else
          some (some (pI (-1)), M6) := (rn_un PP [] 166 62 0 _ [] M).trans rfl
set_option maxRecDepth 100000 in
set_option maxHeartbeats 4000000 in
theorem tX12_exchange (r0 : Option Nat) (p0 : Int32) (p1 : Int32) (p2 : Int32) (M : Mem) : ex 167 7 [pR r0, pI p0, pI p1, pI p2] M =
    rd r0 12 M fun a2 =>
    clI (ex 160 3 [pR (some a2), pI p0, pI p1] M) fun r3 M1 =>
    if r3 = 0 then
      some (some (pI (-1)), M1)
    else
      rd r0 12 M1 fun a5 =>
      clI (ex 160 3 [pR (some a5), pI p0, pI p2] M1) fun r6 M4 =>
      if ¬ r6 = 0 then
        rd r0 12 M4 fun a7 =>
        if gI M4 791 a7 ≤ 0 then
          rd r0 12 M4 fun a8 =>
          ix 21 21 (gR M4 770 a8) ((8 * p0) + p1) M4 fun a9 j10 =>
          rd r0 12 M4 fun a11 =>
          ix 22 22 (gR M4 771 a11) ((8 * p0) + p1) M4 fun a12 j13 =>
          rd r0 12 M4 fun a14 =>
          rd r0 12 M4 fun a15 =>
          ix 21 21 (gR M4 770 a15) ((8 * p0) + p2) M4 fun a16 j17 =>
          ix 21 21 (gR M4 770 a14) ((8 * p0) + p1) M4 fun a18 j19 =>
          bd (wJ M4 a18 j19 (aJ M4 a16 j17)) fun M20 =>
          rd r0 12 M20 fun a21 =>
          rd r0 12 M20 fun a22 =>
          ix 22 22 (gR M20 771 a22) ((8 * p0) + p2) M20 fun a23 j24 =>
          ix 22 22 (gR M20 771 a21) ((8 * p0) + p1) M20 fun a25 j26 =>
          zo (aI M20 a23 j24) (bd (wI M20 a25 j26 (aI M20 a23 j24)) fun M27 =>
          rd r0 12 M27 fun a28 =>
          ix 21 21 (gR M27 770 a28) ((8 * p0) + p2) M27 fun a29 j30 =>
          bd (wJ M27 a29 j30 (aJ M4 a9 j10)) fun M31 =>
          rd r0 12 M31 fun a32 =>
          ix 22 22 (gR M31 771 a32) ((8 * p0) + p2) M31 fun a33 j34 =>
          zo (aI M4 a12 j13) (bd (wI M31 a33 j34 (aI M4 a12 j13)) fun M35 =>
          some (some (pI 1), M35)))
        else
          some (some (pI (-2)), M4)
      else
        some (some (pI (-1)), M4) := (rn_un PP [] 167 84 0 _ [] M).trans rfl
set_option maxRecDepth 100000 in
set_option maxHeartbeats 4000000 in
theorem tX12_forget (r0 : Option Nat) (p0 : Int32) (p1 : Int32) (M : Mem) : ex 168 4 [pR r0, pI p0, pI p1] M =
    rd r0 12 M fun a2 =>
    clI (ex 160 3 [pR (some a2), pI p0, pI p1] M) fun r3 M1 =>
    if ¬ r3 = 0 then
      rd r0 12 M1 fun a4 =>
      if gI M1 791 a4 ≤ 0 then
        rd r0 12 M1 fun a5 =>
        ix 20 30 (gR M1 769 a5) p0 M1 fun a6 j7 =>
        ix 20 20 (gR M1 769 a5) p0 M1 fun a8 j9 =>
        bd (wI M1 a8 j9 (aI M1 a6 j7 - 1)) fun M10 =>
        rn PP 168 33 [some (pR r0), some (pI p0), none, some (pI p1)] [] M10
      else
        some (some (pI (-2)), M1)
    else
      some (some (pI (-1)), M1) := (rn_un PP [33] 168 20 0 _ [] M).trans rfl
set_option maxRecDepth 100000 in
set_option maxHeartbeats 4000000 in
theorem tX12_forget_33 (l0 : Option Nat) (l1 : Int32) (l3 : Int32) (M : Mem) : rn PP 168 33 [some (pR l0), some (pI l1), none, some (pI l3)] [] M =
    rd l0 12 M fun a1 =>
    ix 20 30 (gR M 769 a1) l1 M fun a2 j3 =>
    if aI M a2 j3 ≤ l3 then
      rd l0 12 M fun a4 =>
      ix 20 30 (gR M 769 a4) l1 M fun a5 j6 =>
      some (some (pI (aI M a5 j6)), M)
    else
      rd l0 12 M fun a7 =>
      rd l0 12 M fun a8 =>
      ix 21 21 (gR M 770 a8) (((8 * l1) + l3) + 1) M fun a9 j10 =>
      ix 21 21 (gR M 770 a7) ((8 * l1) + l3) M fun a11 j12 =>
      bd (wJ M a11 j12 (aJ M a9 j10)) fun M13 =>
      rd l0 12 M13 fun a14 =>
      rd l0 12 M13 fun a15 =>
      ix 22 22 (gR M13 771 a15) (((8 * l1) + l3) + 1) M13 fun a16 j17 =>
      ix 22 22 (gR M13 771 a14) ((8 * l1) + l3) M13 fun a18 j19 =>
      zo (aI M13 a16 j17) (bd (wI M13 a18 j19 (aI M13 a16 j17)) fun M20 =>
      rn PP 168 33 [some (pR l0), some (pI l1), none, some (pI (l3 + 1))] [] M20) := (rn_un PP [33] 168 46 33 _ _ M).trans rfl
set_option maxRecDepth 100000 in
set_option maxHeartbeats 4000000 in
theorem tX12_fails (r0 : Option Nat) (p0 : Int32) (p1 : Int32) (M : Mem) : ex 169 4 [pR r0, pI p0, pI p1] M =
    rd r0 12 M fun a2 =>
    clI (ex 159 2 [pR (some a2), pI p0] M) fun r3 M1 =>
    if ¬ r3 = 0 then
      rd r0 12 M1 fun a4 =>
      if gI M1 791 a4 ≤ 0 then
        rd r0 12 M1 fun a5 =>
        ix 22 22 (gR M1 772 a5) p0 M1 fun a6 j7 =>
        if aI M1 a6 j7 = 0 then
          rd r0 12 M1 fun a8 =>
          ix 22 22 (gR M1 772 a8) p0 M1 fun a9 j10 =>
          zo p1 (bd (wI M1 a9 j10 p1) fun M11 =>
          some (some (pI 0), M11))
        else
          rd r0 12 M1 fun a12 =>
          ix 22 22 (gR M1 772 a12) p0 M1 fun a13 j14 =>
          zo p1 (bd (wI M1 a13 j14 p1) fun M15 =>
          some (some (pI 1), M15))
      else
        some (some (pI (-2)), M1)
    else
      some (some (pI (-1)), M1) := (rn_un PP [] 169 23 0 _ [] M).trans rfl
set_option maxRecDepth 100000 in
set_option maxHeartbeats 4000000 in
theorem tX12_family (r0 : Option Nat) (M : Mem) : ex 170 1 [pR r0] M =
    rd r0 12 M fun a1 =>
    if gI M 791 a1 ≤ 0 then
      rd r0 12 M fun a2 =>
      if ¬ gI M 784 a2 = 3 then
        rd r0 12 M fun a3 =>
        rd r0 12 M fun a4 =>
        bd (sI M 784 a4 (gI M 784 a3 + 1)) fun M5 =>
        rd r0 12 M5 fun a6 =>
        some (some (pI (gI M5 784 a6 - 1)), M5)
      else
        some (some (pI (-3)), M)
    else
      some (some (pI (-2)), M) := (rn_un PP [] 170 19 0 _ [] M).trans rfl
set_option maxRecDepth 100000 in
set_option maxHeartbeats 4000000 in
theorem tX12_permit (r0 : Option Nat) (p0 : Int32) (p1 : Int32) (p2 : Int32) (M : Mem) : ex 171 6 [pR r0, pI p0, pI p1, pI p2] M =
    rd r0 12 M fun a2 =>
    clI (ex 163 2 [pR (some a2), pI p0] M) fun r3 M1 =>
    if r3 = 0 then
      some (some (pI (-1)), M1)
    else
      if p1 = 0 then
        rd r0 12 M1 fun a5 =>
        clI (ex 161 2 [pR (some a5), pI p2] M1) fun r6 M4 =>
        if ¬ r6 = 0 then
          if p1 = 0 then
            rn PP 171 55 [some (pR r0), some (pI p0), none, none, some (pI p2), some (pI 0)] [] M4
          else
            rn PP 171 55 [some (pR r0), some (pI p0), none, none, some (pI (10 + p2)), some (pI 0)] [] M4
        else
          some (some (pI (-1)), M4)
      else
        clI (ex 157 6 [pJ p2.toInt64, pJ (0 : Int64), pJ ((p0 - 1).toInt64)] M1) fun r8 M7 =>
        if ¬ r8 = 0 then
          if p1 = 0 then
            rn PP 171 55 [some (pR r0), some (pI p0), none, none, some (pI p2), some (pI 0)] [] M7
          else
            rn PP 171 55 [some (pR r0), some (pI p0), none, none, some (pI (10 + p2)), some (pI 0)] [] M7
        else
          some (some (pI (-1)), M7) := (rn_un PP [55] 171 26 0 _ [] M).trans rfl
set_option maxRecDepth 100000 in
set_option maxHeartbeats 4000000 in
theorem tX12_permit_55 (l0 : Option Nat) (l1 : Int32) (l4 : Int32) (l5 : Int32) (M : Mem) : rn PP 171 55 [some (pR l0), some (pI l1), none, none, some (pI l4), some (pI l5)] [] M =
    rd l0 12 M fun a1 =>
    ix 20 30 (gR M 785 a1) l1 M fun a2 j3 =>
    if aI M a2 j3 ≤ l5 then
      rd l0 12 M fun a4 =>
      if gI M 791 a4 ≤ 0 then
        rd l0 12 M fun a5 =>
        ix 20 30 (gR M 785 a5) l1 M fun a6 j7 =>
        if ¬ aI M a6 j7 = 4 then
          rd l0 12 M fun a8 =>
          rd l0 12 M fun a9 =>
          ix 20 30 (gR M 785 a9) l1 M fun a10 j11 =>
          ix 20 20 (gR M 786 a8) ((4 * l1) + aI M a10 j11) M fun a12 j13 =>
          bd (wI M a12 j13 l4) fun M14 =>
          rd l0 12 M14 fun a15 =>
          ix 20 30 (gR M14 785 a15) l1 M14 fun a16 j17 =>
          ix 20 20 (gR M14 785 a15) l1 M14 fun a18 j19 =>
          bd (wI M14 a18 j19 (aI M14 a16 j17 + 1)) fun M20 =>
          rd l0 12 M20 fun a21 =>
          ix 20 30 (gR M20 785 a21) l1 M20 fun a22 j23 =>
          some (some (pI (aI M20 a22 j23)), M20)
        else
          some (some (pI (-3)), M)
      else
        some (some (pI (-2)), M)
    else
      rd l0 12 M fun a24 =>
      ix 20 30 (gR M 786 a24) ((4 * l1) + l5) M fun a25 j26 =>
      if ¬ aI M a25 j26 = l4 then
        rn PP 171 55 [some (pR l0), some (pI l1), none, none, some (pI l4), some (pI (l5 + 1))] [] M
      else
        some (some (pI (-1)), M) := (rn_un PP [55] 171 41 55 _ _ M).trans rfl
set_option maxRecDepth 100000 in
set_option maxHeartbeats 4000000 in
theorem tX12_findLeaves (r0 : Option Nat) (p0 : Int32) (M : Mem) : ex 172 5 [pR r0, pI p0] M =
    rd r0 12 M fun a1 =>
    bd (sI M 788 a1 0) fun M2 =>
    rd r0 12 M2 fun a3 =>
    ix 20 20 (gR M2 789 a3) 0 M2 fun a4 j5 =>
    bd (wI M2 a4 j5 (10 + p0)) fun M6 =>
    rn PP 172 19 [some (pR r0), none, some (pI 1), none, none] [] M6 := (rn_un PP [19, 52] 172 16 0 _ [] M).trans rfl
set_option maxRecDepth 100000 in
set_option maxHeartbeats 4000000 in
theorem tX12_findLeaves_19 (l0 : Option Nat) (l2 : Int32) (M : Mem) : rn PP 172 19 [some (pR l0), none, some (pI l2), none, none] [] M =
    if l2 ≤ 0 then
      some (none, M)
    else
      rd l0 12 M fun a1 =>
      ix 20 30 (gR M 789 a1) (l2 + (-1)) M fun a2 j3 =>
      if aI M a2 j3 < 10 then
        rd l0 12 M fun a5 =>
        clI (ex 173 3 [pR (some a5), pI (aI M a2 j3)] M) fun r6 M4 =>
        if ¬ r6 = (-1) then
          rn PP 172 19 [some (pR l0), none, some (pI (l2 + (-1))), none, none] [] M4
        else
          rd l0 12 M4 fun a7 =>
          rd l0 12 M4 fun a8 =>
          ix 20 20 (gR M4 787 a7) (gI M4 788 a8) M4 fun a9 j10 =>
          bd (wI M4 a9 j10 (aI M a2 j3)) fun M11 =>
          rd l0 12 M11 fun a12 =>
          rd l0 12 M11 fun a13 =>
          bd (sI M11 788 a13 (gI M11 788 a12 + 1)) fun M14 =>
          rn PP 172 19 [some (pR l0), none, some (pI (l2 + (-1))), none, none] [] M14
      else
        rd l0 12 M fun a15 =>
        ix 20 30 (gR M 785 a15) (aI M a2 j3 - 10) M fun a16 j17 =>
        rn PP 172 52 [some (pR l0), none, some (pI (l2 + (-1))), some (pI (aI M a2 j3)), some (pI (aI M a16 j17 - 1))] [] M := (rn_un PP [19, 52] 172 31 19 _ _ M).trans rfl
set_option maxRecDepth 100000 in
set_option maxHeartbeats 4000000 in
theorem tX12_findLeaves_52 (l0 : Option Nat) (l2 : Int32) (l3 : Int32) (l4 : Int32) (M : Mem) : rn PP 172 52 [some (pR l0), none, some (pI l2), some (pI l3), some (pI l4)] [] M =
    if l4 < 0 then
      rn PP 172 19 [some (pR l0), none, some (pI l2), none, none] [] M
    else
      rd l0 12 M fun a1 =>
      rd l0 12 M fun a2 =>
      ix 20 30 (gR M 786 a2) ((4 * (l3 - 10)) + l4) M fun a3 j4 =>
      ix 20 20 (gR M 789 a1) l2 M fun a5 j6 =>
      bd (wI M a5 j6 (aI M a3 j4)) fun M7 =>
      rn PP 172 52 [some (pR l0), none, some (pI (l2 + 1)), some (pI l3), some (pI (l4 + (-1)))] [] M7 := (rn_un PP [19, 52] 172 21 52 _ _ M).trans rfl
set_option maxRecDepth 100000 in
set_option maxHeartbeats 4000000 in
theorem tX12_tagOf (r0 : Option Nat) (p0 : Int32) (M : Mem) : ex 173 3 [pR r0, pI p0] M =
    rn PP 173 2 [some (pR r0), some (pI p0), some (pI 0)] [] M := (rn_un PP [2] 173 4 0 _ [] M).trans rfl
set_option maxRecDepth 100000 in
set_option maxHeartbeats 4000000 in
theorem tX12_tagOf_2 (l0 : Option Nat) (l1 : Int32) (l2 : Int32) (M : Mem) : rn PP 173 2 [some (pR l0), some (pI l1), some (pI l2)] [] M =
    rd l0 12 M fun a1 =>
    if gI M 788 a1 ≤ l2 then
      some (some (pI (-1)), M)
    else
      rd l0 12 M fun a2 =>
      ix 20 30 (gR M 787 a2) l2 M fun a3 j4 =>
      if ¬ aI M a3 j4 = l1 then
        rn PP 173 2 [some (pR l0), some (pI l1), some (pI (l2 + 1))] [] M
      else
        some (some (pI l2), M) := (rn_un PP [2] 173 14 2 _ _ M).trans rfl
set_option maxRecDepth 100000 in
set_option maxHeartbeats 4000000 in
theorem tX12_isOfFamily (r0 : Option Nat) (p0 : Int32) (p1 : Int32) (M : Mem) : ex 174 3 [pR r0, pI p0, pI p1] M =
    rd r0 12 M fun a2 =>
    clV (ex 172 5 [pR (some a2), pI p1] M) fun M1 =>
    rd r0 12 M1 fun a4 =>
    clI (ex 173 3 [pR (some a4), pI p0] M1) fun r5 M3 =>
    if r5 = (-1) then
      zo 0 (some (some (pI 0), M3))
    else
      zo 1 (some (some (pI 1), M3)) := (rn_un PP [] 174 12 0 _ [] M).trans rfl
set_option maxRecDepth 100000 in
set_option maxHeartbeats 4000000 in
theorem tX12_record (r0 : Option Nat) (M : Mem) : ex 175 1 [pR r0] M =
    rd r0 12 M fun a1 =>
    if gI M 791 a1 ≤ 0 then
      rd r0 12 M fun a2 =>
      if ¬ gI M 773 a2 = 6 then
        rd r0 12 M fun a3 =>
        rd r0 12 M fun a4 =>
        bd (sI M 773 a4 (gI M 773 a3 + 1)) fun M5 =>
        rd r0 12 M5 fun a6 =>
        some (some (pI (gI M5 773 a6 - 1)), M5)
      else
        some (some (pI (-3)), M)
    else
      some (some (pI (-2)), M) := (rn_un PP [] 175 19 0 _ [] M).trans rfl
set_option maxRecDepth 100000 in
set_option maxHeartbeats 4000000 in
theorem tX12_isSort (r0 : Option Nat) (p0 : Int32) (p1 : Int32) (M : Mem) : ex 176 3 [pR r0, pI p0, pI p1] M =
    clI (ex 157 6 [pJ p0.toInt64, pJ (0 : Int64), pJ (11 : Int64)] M) fun r2 M1 =>
    if ¬ r2 = 0 then
      if p0 < 8 then
        zo 1 (some (some (pI 1), M1))
      else
        if 10 ≤ p0 then
          if ¬ p0 = 10 then
            rd r0 12 M1 fun a4 =>
            clI (ex 163 2 [pR (some a4), pI p1] M1) fun r5 M3 =>
            if r5 = 0 then
              zo 0 (some (some (pI 0), M3))
            else
              zo 1 (some (some (pI 1), M3))
          else
            clI (ex 157 6 [pJ p1.toInt64, pJ (0 : Int64), pJ (7 : Int64)] M1) fun r7 M6 =>
            if r7 = 0 then
              zo 0 (some (some (pI 0), M6))
            else
              zo 1 (some (some (pI 1), M6))
        else
          rd r0 12 M1 fun a9 =>
          clI (ex 159 2 [pR (some a9), pI p1] M1) fun r10 M8 =>
          if r10 = 0 then
            zo 0 (some (some (pI 0), M8))
          else
            zo 1 (some (some (pI 1), M8))
    else
      zo 0 (some (some (pI 0), M1)) := (rn_un PP [] 176 26 0 _ [] M).trans rfl
set_option maxRecDepth 100000 in
set_option maxHeartbeats 4000000 in
theorem tX12_fromBits (p0 : Int32) (p1 : Int64) (M : Mem) : ex 177 3 [pI p0, pJ p1] M =
    if p0 = Int32.ofInt (0) then
      if lg_cmp p1 (0 : Int64) = 0 then
        some (some (pJ (0 : Int64)), M)
      else
        some (some (pJ (1 : Int64)), M)
    else if p0 = Int32.ofInt (1) then
      some (some (pJ p1.toInt32.toInt8.toInt32.toInt64), M)
    else if p0 = Int32.ofInt (2) then
      some (some (pJ p1.toInt32.toInt16.toInt32.toInt64), M)
    else if p0 = Int32.ofInt (3) then
      some (some (pJ (((p1.toInt32.toUInt32 % 65536).toInt32).toInt64)), M)
    else if p0 = Int32.ofInt (4) then
      some (some (pJ p1.toInt32.toInt64), M)
    else if p0 = Int32.ofInt (5) then
      some (some (pJ p1), M)
    else if p0 = Int32.ofInt (6) then
      if (p1.toInt32 &&& 2147483647) ≤ 2139095040 then
        some (some (pJ p1.toInt32.toInt64), M)
      else
        some (some (pJ (2143289344 : Int64)), M)
    else if p0 = Int32.ofInt (7) then
      if lg_cmp (p1 &&& (9223372036854775807 : Int64)) (9218868437227405312 : Int64) ≤ 0 then
        some (some (pJ p1), M)
      else
        some (some (pJ (9221120237041090560 : Int64)), M)
    else 
      some (some (pJ p1), M) := (rn_un PP [] 177 13 0 _ [] M).trans rfl
set_option maxRecDepth 100000 in
set_option maxHeartbeats 4000000 in
theorem tX12_partNamed (r0 : Option Nat) (p0 : Int32) (p1 : Int64) (M : Mem) : ex 178 5 [pR r0, pI p0, pJ p1] M =
    rn PP 178 3 [some (pR r0), some (pI p0), some (pJ p1), none, some (pI 0)] [] M := (rn_un PP [3] 178 4 0 _ [] M).trans rfl
set_option maxRecDepth 100000 in
set_option maxHeartbeats 4000000 in
theorem tX12_partNamed_3 (l0 : Option Nat) (l1 : Int32) (l2 : Int64) (l4 : Int32) (M : Mem) : rn PP 178 3 [some (pR l0), some (pI l1), some (pJ l2), none, some (pI l4)] [] M =
    rd l0 12 M fun a1 =>
    ix 20 30 (gR M 774 a1) l1 M fun a2 j3 =>
    if aI M a2 j3 ≤ l4 then
      some (some (pI (-1)), M)
    else
      rd l0 12 M fun a4 =>
      ix 21 21 (gR M 775 a4) ((6 * l1) + l4) M fun a5 j6 =>
      if ¬ lg_cmp (aJ M a5 j6) l2 = 0 then
        rn PP 178 3 [some (pR l0), some (pI l1), some (pJ l2), none, some (pI (l4 + 1))] [] M
      else
        some (some (pI l4), M) := (rn_un PP [3] 178 21 3 _ _ M).trans rfl
set_option maxRecDepth 100000 in
set_option maxHeartbeats 4000000 in
theorem tX12_part (r0 : Option Nat) (p0 : Int32) (p1 : Int64) (p2 : Int32) (p3 : Int32) (p4 : Int64) (M : Mem) : ex 179 9 [pR r0, pI p0, pJ p1, pI p2, pI p3, pJ p4] M =
    rd r0 12 M fun a2 =>
    clI (ex 161 2 [pR (some a2), pI p0] M) fun r3 M1 =>
    if r3 = 0 then
      some (some (pI (-1)), M1)
    else
      clI (ex 158 7 [pJ p1] M1) fun r5 M4 =>
      if r5 = 0 then
        some (some (pI (-1)), M4)
      else
        rd r0 12 M4 fun a7 =>
        clI (ex 178 5 [pR (some a7), pI p0, pJ p1] M4) fun r8 M6 =>
        if ¬ r8 = (-1) then
          some (some (pI (-1)), M6)
        else
          rd r0 12 M6 fun a10 =>
          clI (ex 176 3 [pR (some a10), pI p2, pI p3] M6) fun r11 M9 =>
          if ¬ r11 = 0 then
            rd r0 12 M9 fun a12 =>
            if gI M9 791 a12 ≤ 0 then
              rd r0 12 M9 fun a13 =>
              ix 20 30 (gR M9 774 a13) p0 M9 fun a14 j15 =>
              if ¬ aI M9 a14 j15 = 6 then
                rd r0 12 M9 fun a16 =>
                ix 20 30 (gR M9 774 a16) p0 M9 fun a17 j18 =>
                rd r0 12 M9 fun a19 =>
                ix 21 21 (gR M9 775 a19) ((6 * p0) + aI M9 a17 j18) M9 fun a20 j21 =>
                bd (wJ M9 a20 j21 p1) fun M22 =>
                rd r0 12 M22 fun a24 =>
                clV (ex 180 4 [pR (some a24), pI ((6 * p0) + aI M9 a17 j18), pI p2, pI p3] M22) fun M23 =>
                rd r0 12 M23 fun a25 =>
                if 8 ≤ p2 then
                  rd r0 12 M23 fun a26 =>
                  ix 21 21 (gR M23 778 a26) ((6 * p0) + aI M9 a17 j18) M23 fun a27 j28 =>
                  ix 21 21 (gR M23 778 a25) ((6 * p0) + aI M9 a17 j18) M23 fun a29 j30 =>
                  bd (wJ M23 a29 j30 (aJ M23 a27 j28)) fun M31 =>
                  rd r0 12 M31 fun a32 =>
                  ix 20 30 (gR M31 774 a32) p0 M31 fun a33 j34 =>
                  ix 20 20 (gR M31 774 a32) p0 M31 fun a35 j36 =>
                  bd (wI M31 a35 j36 (aI M31 a33 j34 + 1)) fun M37 =>
                  rd r0 12 M37 fun a38 =>
                  ix 20 30 (gR M37 774 a38) p0 M37 fun a39 j40 =>
                  some (some (pI (aI M37 a39 j40 - 1)), M37)
                else
                  clJ (ex 177 3 [pI p2, pJ p4] M23) fun r42 M41 =>
                  ix 21 21 (gR M23 778 a25) ((6 * p0) + aI M9 a17 j18) M41 fun a43 j44 =>
                  bd (wJ M41 a43 j44 r42) fun M45 =>
                  rd r0 12 M45 fun a46 =>
                  ix 20 30 (gR M45 774 a46) p0 M45 fun a47 j48 =>
                  ix 20 20 (gR M45 774 a46) p0 M45 fun a49 j50 =>
                  bd (wI M45 a49 j50 (aI M45 a47 j48 + 1)) fun M51 =>
                  rd r0 12 M51 fun a52 =>
                  ix 20 30 (gR M51 774 a52) p0 M51 fun a53 j54 =>
                  some (some (pI (aI M51 a53 j54 - 1)), M51)
              else
                some (some (pI (-3)), M9)
            else
              some (some (pI (-2)), M9)
          else
            some (some (pI (-1)), M9) := (rn_un PP [] 179 73 0 _ [] M).trans rfl
set_option maxRecDepth 100000 in
set_option maxHeartbeats 4000000 in
theorem tX12_setSort (r0 : Option Nat) (p0 : Int32) (p1 : Int32) (p2 : Int32) (M : Mem) : ex 180 4 [pR r0, pI p0, pI p1, pI p2] M =
    rd r0 12 M fun a1 =>
    ix 20 20 (gR M 776 a1) p0 M fun a2 j3 =>
    bd (wI M a2 j3 p1) fun M4 =>
    rd r0 12 M4 fun a5 =>
    if 8 ≤ p1 then
      ix 20 20 (gR M4 777 a5) p0 M4 fun a6 j7 =>
      bd (wI M4 a6 j7 p2) fun M8 =>
      rd r0 12 M8 fun a9 =>
      if 8 ≤ p1 then
        if ¬ p1 = 9 then
          ix 21 21 (gR M8 778 a9) p0 M8 fun a10 j11 =>
          bd (wJ M8 a10 j11 (-1 : Int64)) fun M12 =>
          some (none, M12)
        else
          ix 21 21 (gR M8 778 a9) p0 M8 fun a13 j14 =>
          bd (wJ M8 a13 j14 (0 : Int64)) fun M15 =>
          some (none, M15)
      else
        clJ (ex 177 3 [pI p1, pJ (0 : Int64)] M8) fun r17 M16 =>
        ix 21 21 (gR M8 778 a9) p0 M16 fun a18 j19 =>
        bd (wJ M16 a18 j19 r17) fun M20 =>
        some (none, M20)
    else
      ix 20 20 (gR M4 777 a5) p0 M4 fun a21 j22 =>
      bd (wI M4 a21 j22 0) fun M23 =>
      rd r0 12 M23 fun a24 =>
      if 8 ≤ p1 then
        if ¬ p1 = 9 then
          ix 21 21 (gR M23 778 a24) p0 M23 fun a25 j26 =>
          bd (wJ M23 a25 j26 (-1 : Int64)) fun M27 =>
          some (none, M27)
        else
          ix 21 21 (gR M23 778 a24) p0 M23 fun a28 j29 =>
          bd (wJ M23 a28 j29 (0 : Int64)) fun M30 =>
          some (none, M30)
      else
        clJ (ex 177 3 [pI p1, pJ (0 : Int64)] M23) fun r32 M31 =>
        ix 21 21 (gR M23 778 a24) p0 M31 fun a33 j34 =>
        bd (wJ M31 a33 j34 r32) fun M35 =>
        some (none, M35) := (rn_un PP [] 180 28 0 _ [] M).trans rfl
set_option maxRecDepth 100000 in
set_option maxHeartbeats 4000000 in
theorem tX12_dropChecks (r0 : Option Nat) (p0 : Int32) (p1 : Int32) (p2 : Int32) (M : Mem) : ex 181 8 [pR r0, pI p0, pI p1, pI p2] M =
    rn PP 181 6 [some (pR r0), some (pI p0), some (pI p1), some (pI p2), some (pI 0), some (pI 0), none, none] [] M := (rn_un PP [6] 181 6 0 _ [] M).trans rfl
set_option maxRecDepth 100000 in
set_option maxHeartbeats 4000000 in
theorem tX12_dropChecks_6 (l0 : Option Nat) (l1 : Int32) (l2 : Int32) (l3 : Int32) (l4 : Int32) (l5 : Int32) (M : Mem) : rn PP 181 6 [some (pR l0), some (pI l1), some (pI l2), some (pI l3), some (pI l4), some (pI l5), none, none] [] M =
    rd l0 12 M fun a1 =>
    ix 20 30 (gR M 779 a1) l1 M fun a2 j3 =>
    if aI M a2 j3 ≤ l5 then
      rd l0 12 M fun a4 =>
      ix 20 20 (gR M 779 a4) l1 M fun a5 j6 =>
      bd (wI M a5 j6 l4) fun M7 =>
      some (none, M7)
    else
      rd l0 12 M fun a8 =>
      ix 20 30 (gR M 780 a8) ((4 * l1) + l5) M fun a9 j10 =>
      if aI M a9 j10 = l2 then
        rn PP 181 6 [some (pR l0), some (pI l1), some (pI l2), some (pI l3), some (pI l4), some (pI (l5 + 1)), none, none] [] M
      else
        rd l0 12 M fun a11 =>
        rd l0 12 M fun a12 =>
        ix 20 30 (gR M 780 a12) ((4 * l1) + l5) M fun a13 j14 =>
        if aI M a13 j14 ≤ l2 then
          rd l0 12 M fun a15 =>
          ix 20 30 (gR M 780 a15) ((4 * l1) + l5) M fun a16 j17 =>
          ix 20 20 (gR M 780 a11) ((4 * l1) + l4) M fun a18 j19 =>
          bd (wI M a18 j19 (aI M a16 j17)) fun M20 =>
          rd l0 12 M20 fun a21 =>
          rd l0 12 M20 fun a22 =>
          ix 20 30 (gR M20 781 a22) ((4 * l1) + l5) M20 fun a23 j24 =>
          ix 20 20 (gR M20 781 a21) ((4 * l1) + l4) M20 fun a25 j26 =>
          bd (wI M20 a25 j26 (aI M20 a23 j24)) fun M27 =>
          rd l0 12 M27 fun a28 =>
          rd l0 12 M27 fun a29 =>
          ix 21 21 (gR M27 782 a29) ((4 * l1) + l5) M27 fun a30 j31 =>
          ix 21 21 (gR M27 782 a28) ((4 * l1) + l4) M27 fun a32 j33 =>
          bd (wJ M27 a32 j33 (aJ M27 a30 j31)) fun M34 =>
          rd l0 12 M34 fun a35 =>
          rd l0 12 M34 fun a36 =>
          ix 21 21 (gR M34 783 a36) ((4 * l1) + l5) M34 fun a37 j38 =>
          ix 21 21 (gR M34 783 a35) ((4 * l1) + l4) M34 fun a39 j40 =>
          bd (wJ M34 a39 j40 (aJ M34 a37 j38)) fun M41 =>
          rn PP 181 6 [some (pR l0), some (pI l1), some (pI l2), some (pI l3), some (pI (l4 + 1)), some (pI (l5 + 1)), none, none] [] M41
        else
          if l3 = 0 then
            rd l0 12 M fun a42 =>
            ix 20 30 (gR M 780 a42) ((4 * l1) + l5) M fun a43 j44 =>
            ix 20 20 (gR M 780 a11) ((4 * l1) + l4) M fun a45 j46 =>
            bd (wI M a45 j46 (aI M a43 j44)) fun M47 =>
            rd l0 12 M47 fun a48 =>
            rd l0 12 M47 fun a49 =>
            ix 20 30 (gR M47 781 a49) ((4 * l1) + l5) M47 fun a50 j51 =>
            ix 20 20 (gR M47 781 a48) ((4 * l1) + l4) M47 fun a52 j53 =>
            bd (wI M47 a52 j53 (aI M47 a50 j51)) fun M54 =>
            rd l0 12 M54 fun a55 =>
            rd l0 12 M54 fun a56 =>
            ix 21 21 (gR M54 782 a56) ((4 * l1) + l5) M54 fun a57 j58 =>
            ix 21 21 (gR M54 782 a55) ((4 * l1) + l4) M54 fun a59 j60 =>
            bd (wJ M54 a59 j60 (aJ M54 a57 j58)) fun M61 =>
            rd l0 12 M61 fun a62 =>
            rd l0 12 M61 fun a63 =>
            ix 21 21 (gR M61 783 a63) ((4 * l1) + l5) M61 fun a64 j65 =>
            ix 21 21 (gR M61 783 a62) ((4 * l1) + l4) M61 fun a66 j67 =>
            bd (wJ M61 a66 j67 (aJ M61 a64 j65)) fun M68 =>
            rn PP 181 6 [some (pR l0), some (pI l1), some (pI l2), some (pI l3), some (pI (l4 + 1)), some (pI (l5 + 1)), none, none] [] M68
          else
            rd l0 12 M fun a69 =>
            ix 20 30 (gR M 780 a69) ((4 * l1) + l5) M fun a70 j71 =>
            ix 20 20 (gR M 780 a11) ((4 * l1) + l4) M fun a72 j73 =>
            bd (wI M a72 j73 (aI M a70 j71 - 1)) fun M74 =>
            rd l0 12 M74 fun a75 =>
            rd l0 12 M74 fun a76 =>
            ix 20 30 (gR M74 781 a76) ((4 * l1) + l5) M74 fun a77 j78 =>
            ix 20 20 (gR M74 781 a75) ((4 * l1) + l4) M74 fun a79 j80 =>
            bd (wI M74 a79 j80 (aI M74 a77 j78)) fun M81 =>
            rd l0 12 M81 fun a82 =>
            rd l0 12 M81 fun a83 =>
            ix 21 21 (gR M81 782 a83) ((4 * l1) + l5) M81 fun a84 j85 =>
            ix 21 21 (gR M81 782 a82) ((4 * l1) + l4) M81 fun a86 j87 =>
            bd (wJ M81 a86 j87 (aJ M81 a84 j85)) fun M88 =>
            rd l0 12 M88 fun a89 =>
            rd l0 12 M88 fun a90 =>
            ix 21 21 (gR M88 783 a90) ((4 * l1) + l5) M88 fun a91 j92 =>
            ix 21 21 (gR M88 783 a89) ((4 * l1) + l4) M88 fun a93 j94 =>
            bd (wJ M88 a93 j94 (aJ M88 a91 j92)) fun M95 =>
            rn PP 181 6 [some (pR l0), some (pI l1), some (pI l2), some (pI l3), some (pI (l4 + 1)), some (pI (l5 + 1)), none, none] [] M95 := (rn_un PP [6] 181 72 6 _ _ M).trans rfl
set_option maxRecDepth 100000 in
set_option maxHeartbeats 4000000 in
theorem tX12_without (r0 : Option Nat) (p0 : Int32) (p1 : Int32) (M : Mem) : ex 182 5 [pR r0, pI p0, pI p1] M =
    rd r0 12 M fun a2 =>
    clI (ex 162 3 [pR (some a2), pI p0, pI p1] M) fun r3 M1 =>
    if ¬ r3 = 0 then
      rd r0 12 M1 fun a4 =>
      if gI M1 791 a4 ≤ 0 then
        rd r0 12 M1 fun a6 =>
        clV (ex 181 8 [pR (some a6), pI p0, pI p1, pI 1] M1) fun M5 =>
        rd r0 12 M5 fun a7 =>
        ix 20 30 (gR M5 774 a7) p0 M5 fun a8 j9 =>
        ix 20 20 (gR M5 774 a7) p0 M5 fun a10 j11 =>
        bd (wI M5 a10 j11 (aI M5 a8 j9 - 1)) fun M12 =>
        rn PP 182 40 [some (pR r0), some (pI p0), none, some (pI p1), none] [] M12
      else
        some (some (pI (-2)), M1)
    else
      some (some (pI (-1)), M1) := (rn_un PP [40] 182 25 0 _ [] M).trans rfl
set_option maxRecDepth 100000 in
set_option maxHeartbeats 4000000 in
theorem tX12_without_40 (l0 : Option Nat) (l1 : Int32) (l3 : Int32) (M : Mem) : rn PP 182 40 [some (pR l0), some (pI l1), none, some (pI l3), none] [] M =
    rd l0 12 M fun a1 =>
    ix 20 30 (gR M 774 a1) l1 M fun a2 j3 =>
    if aI M a2 j3 ≤ l3 then
      rd l0 12 M fun a4 =>
      ix 20 30 (gR M 774 a4) l1 M fun a5 j6 =>
      some (some (pI (aI M a5 j6)), M)
    else
      rd l0 12 M fun a7 =>
      rd l0 12 M fun a8 =>
      ix 21 21 (gR M 775 a8) (((6 * l1) + l3) + 1) M fun a9 j10 =>
      ix 21 21 (gR M 775 a7) ((6 * l1) + l3) M fun a11 j12 =>
      bd (wJ M a11 j12 (aJ M a9 j10)) fun M13 =>
      rd l0 12 M13 fun a14 =>
      rd l0 12 M13 fun a15 =>
      ix 20 30 (gR M13 776 a15) (((6 * l1) + l3) + 1) M13 fun a16 j17 =>
      ix 20 20 (gR M13 776 a14) ((6 * l1) + l3) M13 fun a18 j19 =>
      bd (wI M13 a18 j19 (aI M13 a16 j17)) fun M20 =>
      rd l0 12 M20 fun a21 =>
      rd l0 12 M20 fun a22 =>
      ix 20 30 (gR M20 777 a22) (((6 * l1) + l3) + 1) M20 fun a23 j24 =>
      ix 20 20 (gR M20 777 a21) ((6 * l1) + l3) M20 fun a25 j26 =>
      bd (wI M20 a25 j26 (aI M20 a23 j24)) fun M27 =>
      rd l0 12 M27 fun a28 =>
      rd l0 12 M27 fun a29 =>
      ix 21 21 (gR M27 778 a29) (((6 * l1) + l3) + 1) M27 fun a30 j31 =>
      ix 21 21 (gR M27 778 a28) ((6 * l1) + l3) M27 fun a32 j33 =>
      bd (wJ M27 a32 j33 (aJ M27 a30 j31)) fun M34 =>
      rn PP 182 40 [some (pR l0), some (pI l1), none, some (pI (l3 + 1)), none] [] M34 := (rn_un PP [40] 182 56 40 _ _ M).trans rfl
set_option maxRecDepth 100000 in
set_option maxHeartbeats 4000000 in
theorem tX12_becomes (r0 : Option Nat) (p0 : Int32) (p1 : Int32) (p2 : Int32) (p3 : Int32) (M : Mem) : ex 183 6 [pR r0, pI p0, pI p1, pI p2, pI p3] M =
    rd r0 12 M fun a2 =>
    clI (ex 162 3 [pR (some a2), pI p0, pI p1] M) fun r3 M1 =>
    if r3 = 0 then
      some (some (pI (-1)), M1)
    else
      rd r0 12 M1 fun a5 =>
      clI (ex 176 3 [pR (some a5), pI p2, pI p3] M1) fun r6 M4 =>
      if ¬ r6 = 0 then
        rd r0 12 M4 fun a7 =>
        if gI M4 791 a7 ≤ 0 then
          rd r0 12 M4 fun a8 =>
          ix 20 30 (gR M4 776 a8) ((6 * p0) + p1) M4 fun a9 j10 =>
          rd r0 12 M4 fun a12 =>
          clV (ex 181 8 [pR (some a12), pI p0, pI p1, pI 0] M4) fun M11 =>
          rd r0 12 M11 fun a14 =>
          clV (ex 180 4 [pR (some a14), pI ((6 * p0) + p1), pI p2, pI p3] M11) fun M13 =>
          some (some (pI (aI M4 a9 j10)), M13)
        else
          some (some (pI (-2)), M4)
      else
        some (some (pI (-1)), M4) := (rn_un PP [] 183 39 0 _ [] M).trans rfl
set_option maxRecDepth 100000 in
set_option maxHeartbeats 4000000 in
theorem tX12_isCheck (p0 : Int32) (p1 : Int32) (M : Mem) : ex 184 2 [pI p0, pI p1] M =
    if p0 = Int32.ofInt (0) then
      if 8 ≤ p1 then
        zo 0 (some (some (pI 0), M))
      else
        zo 1 (some (some (pI 1), M))
    else if p0 = Int32.ofInt (1) then
      if p1 = 8 then
        zo 1 (some (some (pI 1), M))
      else
        if p1 = 10 then
          zo 1 (some (some (pI 1), M))
        else
          if ¬ p1 = 11 then
            zo 0 (some (some (pI 0), M))
          else
            zo 1 (some (some (pI 1), M))
    else if p0 = Int32.ofInt (2) then
      clI (ex 157 6 [pJ p1.toInt64, pJ (1 : Int64), pJ (5 : Int64)] M) fun r2 M1 =>
      zo r2 (some (some (pI r2), M1))
    else if p0 = Int32.ofInt (3) then
      clI (ex 157 6 [pJ p1.toInt64, pJ (1 : Int64), pJ (4 : Int64)] M) fun r4 M3 =>
      zo r4 (some (some (pI r4), M3))
    else if p0 = Int32.ofInt (4) then
      if ¬ p1 = 10 then
        zo 0 (some (some (pI 0), M))
      else
        zo 1 (some (some (pI 1), M))
    else if p0 = Int32.ofInt (5) then
      if ¬ p1 = 11 then
        zo 0 (some (some (pI 0), M))
      else
        zo 1 (some (some (pI 1), M))
    else 
      if ¬ p0 = 6 then
        zo 0 (some (some (pI 0), M))
      else
        if ¬ p1 = 8 then
          zo 0 (some (some (pI 0), M))
        else
          zo 1 (some (some (pI 1), M)) := (rn_un PP [] 184 15 0 _ [] M).trans rfl
set_option maxRecDepth 100000 in
set_option maxHeartbeats 4000000 in
theorem tX12_check (r0 : Option Nat) (p0 : Int32) (p1 : Int32) (p2 : Int32) (p3 : Int64) (p4 : Int64) (M : Mem) : ex 185 9 [pR r0, pI p0, pI p1, pI p2, pJ p3, pJ p4] M =
    rd r0 12 M fun a2 =>
    clI (ex 162 3 [pR (some a2), pI p0, pI p1] M) fun r3 M1 =>
    if r3 = 0 then
      some (some (pI (-1)), M1)
    else
      rd r0 12 M1 fun a4 =>
      ix 20 30 (gR M1 776 a4) ((6 * p0) + p1) M1 fun a5 j6 =>
      clI (ex 184 2 [pI p2, pI (aI M1 a5 j6)] M1) fun r8 M7 =>
      if ¬ r8 = 0 then
        rd r0 12 M7 fun a9 =>
        if gI M7 791 a9 ≤ 0 then
          rd r0 12 M7 fun a10 =>
          ix 20 30 (gR M7 779 a10) p0 M7 fun a11 j12 =>
          if ¬ aI M7 a11 j12 = 4 then
            rd r0 12 M7 fun a13 =>
            ix 20 30 (gR M7 779 a13) p0 M7 fun a14 j15 =>
            rd r0 12 M7 fun a16 =>
            ix 20 20 (gR M7 780 a16) ((4 * p0) + aI M7 a14 j15) M7 fun a17 j18 =>
            bd (wI M7 a17 j18 p1) fun M19 =>
            rd r0 12 M19 fun a20 =>
            ix 20 20 (gR M19 781 a20) ((4 * p0) + aI M7 a14 j15) M19 fun a21 j22 =>
            bd (wI M19 a21 j22 p2) fun M23 =>
            rd r0 12 M23 fun a24 =>
            ix 21 21 (gR M23 782 a24) ((4 * p0) + aI M7 a14 j15) M23 fun a25 j26 =>
            bd (wJ M23 a25 j26 p3) fun M27 =>
            rd r0 12 M27 fun a28 =>
            ix 21 21 (gR M27 783 a28) ((4 * p0) + aI M7 a14 j15) M27 fun a29 j30 =>
            bd (wJ M27 a29 j30 p4) fun M31 =>
            rd r0 12 M31 fun a32 =>
            ix 20 30 (gR M31 779 a32) p0 M31 fun a33 j34 =>
            ix 20 20 (gR M31 779 a32) p0 M31 fun a35 j36 =>
            bd (wI M31 a35 j36 (aI M31 a33 j34 + 1)) fun M37 =>
            rd r0 12 M37 fun a38 =>
            ix 20 30 (gR M37 779 a38) p0 M37 fun a39 j40 =>
            some (some (pI (aI M37 a39 j40)), M37)
          else
            some (some (pI (-3)), M7)
        else
          some (some (pI (-2)), M7)
      else
        some (some (pI (-1)), M7) := (rn_un PP [] 185 68 0 _ [] M).trans rfl
set_option maxRecDepth 100000 in
set_option maxHeartbeats 4000000 in
theorem tX12_build (r0 : Option Nat) (M : Mem) : ex 186 3 [pR r0] M =
    rd r0 12 M fun a1 =>
    if ¬ gI M 790 a1 = 1000 then
      rd r0 12 M fun a2 =>
      rd r0 12 M fun a3 =>
      rd r0 12 M fun a4 =>
      bd (sI M 790 a4 (gI M 790 a3 + 1)) fun M5 =>
      rd r0 12 M5 fun a6 =>
      bd (sI M5 791 a6 0) fun M7 =>
      rd r0 12 M7 fun a8 =>
      bd (sI M7 792 a8 0) fun M9 =>
      rd r0 12 M9 fun a10 =>
      bd (sI M9 793 a10 0) fun M11 =>
      rd r0 12 M11 fun a12 =>
      bd (sI M11 794 a12 0) fun M13 =>
      rd r0 12 M13 fun a14 =>
      bd (sI M13 798 a14 0) fun M15 =>
      rn PP 186 55 [some (pR r0), some (pI (gI M 791 a2)), some (pI 0)] [] M15
    else
      some (some (pI (-3)), M) := (rn_un PP [55, 76, 96, 117] 186 32 0 _ [] M).trans rfl
set_option maxRecDepth 100000 in
set_option maxHeartbeats 4000000 in
theorem tX12_build_55 (l0 : Option Nat) (l1 : Int32) (l2 : Int32) (M : Mem) : rn PP 186 55 [some (pR l0), some (pI l1), some (pI l2)] [] M =
    if 14 ≤ l2 then
      rn PP 186 76 [some (pR l0), some (pI l1), some (pI 0)] [] M
    else
      rd l0 12 M fun a1 =>
      ix 22 22 (gR M 795 a1) l2 M fun a2 j3 =>
      zo 0 (bd (wI M a2 j3 0) fun M4 =>
      rn PP 186 55 [some (pR l0), some (pI l1), some (pI (l2 + 1))] [] M4) := (rn_un PP [55, 76, 96, 117] 186 12 55 _ _ M).trans rfl
set_option maxRecDepth 100000 in
set_option maxHeartbeats 4000000 in
theorem tX12_build_76 (l0 : Option Nat) (l1 : Int32) (l2 : Int32) (M : Mem) : rn PP 186 76 [some (pR l0), some (pI l1), some (pI l2)] [] M =
    if 4 ≤ l2 then
      rn PP 186 96 [some (pR l0), some (pI l1), some (pI 0)] [] M
    else
      rd l0 12 M fun a1 =>
      ix 22 22 (gR M 796 a1) l2 M fun a2 j3 =>
      zo 0 (bd (wI M a2 j3 0) fun M4 =>
      rn PP 186 76 [some (pR l0), some (pI l1), some (pI (l2 + 1))] [] M4) := (rn_un PP [55, 76, 96, 117] 186 12 76 _ _ M).trans rfl
set_option maxRecDepth 100000 in
set_option maxHeartbeats 4000000 in
theorem tX12_build_96 (l0 : Option Nat) (l1 : Int32) (l2 : Int32) (M : Mem) : rn PP 186 96 [some (pR l0), some (pI l1), some (pI l2)] [] M =
    if 64 ≤ l2 then
      rn PP 186 117 [some (pR l0), some (pI l1), some (pI 0)] [] M
    else
      rd l0 12 M fun a1 =>
      ix 20 20 (gR M 823 a1) l2 M fun a2 j3 =>
      bd (wI M a2 j3 (-1)) fun M4 =>
      rn PP 186 96 [some (pR l0), some (pI l1), some (pI (l2 + 1))] [] M4 := (rn_un PP [55, 76, 96, 117] 186 12 96 _ _ M).trans rfl
set_option maxRecDepth 100000 in
set_option maxHeartbeats 4000000 in
theorem tX12_build_117 (l0 : Option Nat) (l1 : Int32) (l2 : Int32) (M : Mem) : rn PP 186 117 [some (pR l0), some (pI l1), some (pI l2)] [] M =
    if 384 ≤ l2 then
      some (some (pI l1), M)
    else
      rd l0 12 M fun a1 =>
      ix 20 20 (gR M 824 a1) l2 M fun a2 j3 =>
      bd (wI M a2 j3 (-1)) fun M4 =>
      rn PP 186 117 [some (pR l0), some (pI l1), some (pI (l2 + 1))] [] M4 := (rn_un PP [55, 76, 96, 117] 186 12 117 _ _ M).trans rfl
set_option maxRecDepth 100000 in
set_option maxHeartbeats 4000000 in
theorem tX12_start (r0 : Option Nat) (p0 : Int32) (M : Mem) : ex 187 2 [pR r0, pI p0] M =
    rd r0 12 M fun a1 =>
    ix 22 22 (gR M 795 a1) p0 M fun a2 j3 =>
    if aI M a2 j3 = 0 then
      if p0 < 10 then
        if p0 < 10 then
          rd r0 12 M fun a4 =>
          ix 22 22 (gR M 795 a4) p0 M fun a5 j6 =>
          zo 1 (bd (wI M a5 j6 1) fun M7 =>
          rd r0 12 M7 fun a8 =>
          rd r0 12 M7 fun a9 =>
          ix 20 20 (gR M7 797 a8) (gI M7 798 a9) M7 fun a10 j11 =>
          bd (wI M7 a10 j11 p0) fun M12 =>
          rd r0 12 M12 fun a13 =>
          rd r0 12 M12 fun a14 =>
          bd (sI M12 798 a14 (gI M12 798 a13 + 1)) fun M15 =>
          some (some (pI 0), M15))
        else
          rd r0 12 M fun a16 =>
          ix 22 22 (gR M 772 a16) (p0 - 10) M fun a17 j18 =>
          if aI M a17 j18 = 0 then
            rd r0 12 M fun a19 =>
            ix 22 22 (gR M 795 a19) p0 M fun a20 j21 =>
            zo 1 (bd (wI M a20 j21 1) fun M22 =>
            rd r0 12 M22 fun a23 =>
            rd r0 12 M22 fun a24 =>
            ix 20 20 (gR M22 797 a23) (gI M22 798 a24) M22 fun a25 j26 =>
            bd (wI M22 a25 j26 p0) fun M27 =>
            rd r0 12 M27 fun a28 =>
            rd r0 12 M27 fun a29 =>
            bd (sI M27 798 a29 (gI M27 798 a28 + 1)) fun M30 =>
            some (some (pI 0), M30))
          else
            rd r0 12 M fun a31 =>
            ix 22 22 (gR M 796 a31) (p0 - 10) M fun a32 j33 =>
            zo 1 (bd (wI M a32 j33 1) fun M34 =>
            some (some (pI 9), M34))
      else
        rd r0 12 M fun a35 =>
        ix 22 22 (gR M 796 a35) (p0 - 10) M fun a36 j37 =>
        if aI M a36 j37 = 0 then
          if p0 < 10 then
            rd r0 12 M fun a38 =>
            ix 22 22 (gR M 795 a38) p0 M fun a39 j40 =>
            zo 1 (bd (wI M a39 j40 1) fun M41 =>
            rd r0 12 M41 fun a42 =>
            rd r0 12 M41 fun a43 =>
            ix 20 20 (gR M41 797 a42) (gI M41 798 a43) M41 fun a44 j45 =>
            bd (wI M41 a44 j45 p0) fun M46 =>
            rd r0 12 M46 fun a47 =>
            rd r0 12 M46 fun a48 =>
            bd (sI M46 798 a48 (gI M46 798 a47 + 1)) fun M49 =>
            some (some (pI 0), M49))
          else
            rd r0 12 M fun a50 =>
            ix 22 22 (gR M 772 a50) (p0 - 10) M fun a51 j52 =>
            if aI M a51 j52 = 0 then
              rd r0 12 M fun a53 =>
              ix 22 22 (gR M 795 a53) p0 M fun a54 j55 =>
              zo 1 (bd (wI M a54 j55 1) fun M56 =>
              rd r0 12 M56 fun a57 =>
              rd r0 12 M56 fun a58 =>
              ix 20 20 (gR M56 797 a57) (gI M56 798 a58) M56 fun a59 j60 =>
              bd (wI M56 a59 j60 p0) fun M61 =>
              rd r0 12 M61 fun a62 =>
              rd r0 12 M61 fun a63 =>
              bd (sI M61 798 a63 (gI M61 798 a62 + 1)) fun M64 =>
              some (some (pI 0), M64))
            else
              rd r0 12 M fun a65 =>
              ix 22 22 (gR M 796 a65) (p0 - 10) M fun a66 j67 =>
              zo 1 (bd (wI M a66 j67 1) fun M68 =>
              some (some (pI 9), M68))
        else
          some (some (pI 10), M)
    else
      some (some (pI 0), M) := (rn_un PP [] 187 45 0 _ [] M).trans rfl
set_option maxRecDepth 100000 in
set_option maxHeartbeats 4000000 in
theorem tX12_started (r0 : Option Nat) (p0 : Int32) (M : Mem) : ex 188 2 [pR r0, pI p0] M =
    rd r0 12 M fun a1 =>
    clI (ex 157 6 [pJ p0.toInt64, pJ (0 : Int64), pJ ((gI M 798 a1 - 1).toInt64)] M) fun r3 M2 =>
    if r3 = 0 then
      some (some (pI (-1)), M2)
    else
      rd r0 12 M2 fun a4 =>
      ix 20 30 (gR M2 797 a4) p0 M2 fun a5 j6 =>
      some (some (pI (aI M2 a5 j6)), M2) := (rn_un PP [] 188 17 0 _ [] M).trans rfl
set_option maxRecDepth 100000 in
set_option maxHeartbeats 4000000 in
theorem tX12_newRow (r0 : Option Nat) (p0 : Int32) (p1 : Int32) (M : Mem) : ex 189 4 [pR r0, pI p0, pI p1] M =
    rd r0 12 M fun a1 =>
    rd r0 12 M fun a2 =>
    ix 20 20 (gR M 799 a1) (gI M 793 a2) M fun a3 j4 =>
    bd (wI M a3 j4 p0) fun M5 =>
    rd r0 12 M5 fun a6 =>
    rd r0 12 M5 fun a7 =>
    ix 20 20 (gR M5 800 a6) (gI M5 793 a7) M5 fun a8 j9 =>
    bd (wI M5 a8 j9 p1) fun M10 =>
    rn PP 189 22 [some (pR r0), some (pI p0), some (pI p1), some (pI 0)] [] M10 := (rn_un PP [22] 189 16 0 _ [] M).trans rfl
set_option maxRecDepth 100000 in
set_option maxHeartbeats 4000000 in
theorem tX12_newRow_22 (l0 : Option Nat) (l1 : Int32) (l2 : Int32) (l3 : Int32) (M : Mem) : rn PP 189 22 [some (pR l0), some (pI l1), some (pI l2), some (pI l3)] [] M =
    if l2 ≤ l3 then
      rd l0 12 M fun a1 =>
      rd l0 12 M fun a2 =>
      bd (sI M 793 a2 (gI M 793 a1 + 1)) fun M3 =>
      rd l0 12 M3 fun a4 =>
      some (some (pI (gI M3 793 a4 - 1)), M3)
    else
      rd l0 12 M fun a5 =>
      rd l0 12 M fun a6 =>
      clJ (ex 177 3 [pI l1, pJ (0 : Int64)] M) fun r8 M7 =>
      ix 21 21 (gR M 801 a5) ((16 * gI M 793 a6) + l3) M7 fun a9 j10 =>
      bd (wJ M7 a9 j10 r8) fun M11 =>
      rn PP 189 22 [some (pR l0), some (pI l1), some (pI l2), some (pI (l3 + 1))] [] M11 := (rn_un PP [22] 189 19 22 _ _ M).trans rfl
set_option maxRecDepth 100000 in
set_option maxHeartbeats 4000000 in
theorem tX12_row (r0 : Option Nat) (p0 : Int32) (p1 : Int32) (M : Mem) : ex 190 3 [pR r0, pI p0, pI p1] M =
    clI (ex 157 6 [pJ p0.toInt64, pJ (0 : Int64), pJ (7 : Int64)] M) fun r2 M1 =>
    if r2 = 0 then
      some (some (pI (-1)), M1)
    else
      if p1 ≤ 16 then
        rd r0 12 M1 fun a3 =>
        if ¬ gI M1 794 a3 = 40 then
          if 0 ≤ p1 then
            rd r0 12 M1 fun a4 =>
            rd r0 12 M1 fun a5 =>
            bd (sI M1 794 a5 (gI M1 794 a4 + 1)) fun M6 =>
            rd r0 12 M6 fun a8 =>
            clI (ex 189 4 [pR (some a8), pI p0, pI p1] M6) fun r9 M7 =>
            some (some (pI r9), M7)
          else
            some (some (pI (-14)), M1)
        else
          some (some (pI (-3)), M1)
      else
        some (some (pI (-1)), M1) := (rn_un PP [] 190 27 0 _ [] M).trans rfl
set_option maxRecDepth 100000 in
set_option maxHeartbeats 4000000 in
theorem tX12_isRow (r0 : Option Nat) (p0 : Int32) (M : Mem) : ex 191 2 [pR r0, pI p0] M =
    rd r0 12 M fun a1 =>
    clI (ex 157 6 [pJ p0.toInt64, pJ (0 : Int64), pJ ((gI M 793 a1 - 1).toInt64)] M) fun r3 M2 =>
    zo r3 (some (some (pI r3), M2)) := (rn_un PP [] 191 11 0 _ [] M).trans rfl
set_option maxRecDepth 100000 in
set_option maxHeartbeats 4000000 in
theorem tX12_put (r0 : Option Nat) (p0 : Int32) (p1 : Int32) (p2 : Int64) (M : Mem) : ex 192 5 [pR r0, pI p0, pI p1, pJ p2] M =
    rd r0 12 M fun a2 =>
    clI (ex 191 2 [pR (some a2), pI p0] M) fun r3 M1 =>
    if ¬ r3 = 0 then
      rd r0 12 M1 fun a4 =>
      ix 20 30 (gR M1 800 a4) p0 M1 fun a5 j6 =>
      clI (ex 157 6 [pJ p1.toInt64, pJ (0 : Int64), pJ ((aI M1 a5 j6 - 1).toInt64)] M1) fun r8 M7 =>
      if ¬ r8 = 0 then
        rd r0 12 M7 fun a9 =>
        rd r0 12 M7 fun a10 =>
        ix 20 30 (gR M7 799 a10) p0 M7 fun a11 j12 =>
        clJ (ex 177 3 [pI (aI M7 a11 j12), pJ p2] M7) fun r14 M13 =>
        ix 21 21 (gR M7 801 a9) ((16 * p0) + p1) M13 fun a15 j16 =>
        bd (wJ M13 a15 j16 r14) fun M17 =>
        some (some (pI 1), M17)
      else
        some (some (pI (-15)), M7)
    else
      some (some (pI (-1)), M1) := (rn_un PP [] 192 33 0 _ [] M).trans rfl
set_option maxRecDepth 100000 in
set_option maxHeartbeats 4000000 in
theorem tX12_item (r0 : Option Nat) (p0 : Int32) (p1 : Int32) (M : Mem) : ex 193 3 [pR r0, pI p0, pI p1] M =
    rd r0 12 M fun a2 =>
    clI (ex 191 2 [pR (some a2), pI p0] M) fun r3 M1 =>
    if r3 = 0 then
      some (some (pJ (0 : Int64)), M1)
    else
      rd r0 12 M1 fun a4 =>
      ix 20 30 (gR M1 800 a4) p0 M1 fun a5 j6 =>
      clI (ex 157 6 [pJ p1.toInt64, pJ (0 : Int64), pJ ((aI M1 a5 j6 - 1).toInt64)] M1) fun r8 M7 =>
      if r8 = 0 then
        some (some (pJ (0 : Int64)), M7)
      else
        rd r0 12 M7 fun a9 =>
        ix 21 21 (gR M7 801 a9) ((16 * p0) + p1) M7 fun a10 j11 =>
        some (some (pJ (aJ M7 a10 j11)), M7) := (rn_un PP [] 193 27 0 _ [] M).trans rfl
set_option maxRecDepth 100000 in
set_option maxHeartbeats 4000000 in
theorem tX12_size (r0 : Option Nat) (p0 : Int32) (M : Mem) : ex 194 2 [pR r0, pI p0] M =
    rd r0 12 M fun a2 =>
    clI (ex 191 2 [pR (some a2), pI p0] M) fun r3 M1 =>
    if r3 = 0 then
      some (some (pI (-1)), M1)
    else
      rd r0 12 M1 fun a4 =>
      ix 20 30 (gR M1 800 a4) p0 M1 fun a5 j6 =>
      some (some (pI (aI M1 a5 j6)), M1) := (rn_un PP [] 194 11 0 _ [] M).trans rfl
set_option maxRecDepth 100000 in
set_option maxHeartbeats 4000000 in
theorem tX12_give (r0 : Option Nat) (p0 : Int32) (p1 : Int64) (M : Mem) : ex 195 4 [pR r0, pI p0, pJ p1] M =
    clI (ex 157 6 [pJ p0.toInt64, pJ (0 : Int64), pJ (5 : Int64)] M) fun r2 M1 =>
    if ¬ r2 = 0 then
      rd r0 12 M1 fun a3 =>
      ix 21 21 (gR M1 805 a3) p0 M1 fun a4 j5 =>
      bd (wJ M1 a4 j5 p1) fun M6 =>
      some (some (pI 1), M6)
    else
      some (some (pI (-1)), M1) := (rn_un PP [] 195 14 0 _ [] M).trans rfl
set_option maxRecDepth 100000 in
set_option maxHeartbeats 4000000 in
theorem tX12_isObject (r0 : Option Nat) (p0 : Int64) (M : Mem) : ex 196 3 [pR r0, pJ p0] M =
    rd r0 12 M fun a1 =>
    clI (ex 157 6 [pJ p0, pJ (0 : Int64), pJ ((gI M 791 a1 - 1).toInt64)] M) fun r3 M2 =>
    zo r3 (some (some (pI r3), M2)) := (rn_un PP [] 196 10 0 _ [] M).trans rfl
set_option maxRecDepth 100000 in
set_option maxHeartbeats 4000000 in
theorem tX12_isGood (r0 : Option Nat) (p0 : Int32) (p1 : Int64) (M : Mem) : ex 197 4 [pR r0, pI p0, pJ p1] M =
    rd r0 12 M fun a1 =>
    ix 20 30 (gR M 776 a1) p0 M fun a2 j3 =>
    if aI M a2 j3 = Int32.ofInt (8) then
      rd r0 12 M fun a4 =>
      rd r0 12 M fun a5 =>
      ix 20 30 (gR M 777 a5) p0 M fun a6 j7 =>
      ix 20 30 (gR M 769 a4) (aI M a6 j7) M fun a8 j9 =>
      clI (ex 157 6 [pJ p1, pJ (-1 : Int64), pJ ((aI M a8 j9 - 1).toInt64)] M) fun r11 M10 =>
      zo r11 (some (some (pI r11), M10))
    else if aI M a2 j3 = Int32.ofInt (9) then
      rd r0 12 M fun a12 =>
      rd r0 12 M fun a13 =>
      ix 20 30 (gR M 777 a13) p0 M fun a14 j15 =>
      ix 20 30 (gR M 769 a12) (aI M a14 j15) M fun a16 j17 =>
      clI (ex 157 6 [pJ p1, pJ (0 : Int64), pJ (((1 : Int64) <<< ((aI M a16 j17).toInt64 &&& 63)) - (1 : Int64))] M) fun r19 M18 =>
      zo r19 (some (some (pI r19), M18))
    else if aI M a2 j3 = Int32.ofInt (10) then
      if lg_cmp p1 (-1 : Int64) = 0 then
        zo 1 (some (some (pI 1), M))
      else
        rd r0 12 M fun a20 =>
        clI (ex 157 6 [pJ p1, pJ (0 : Int64), pJ ((gI M 793 a20 - 1).toInt64)] M) fun r22 M21 =>
        if r22 = 0 then
          zo 0 (some (some (pI 0), M21))
        else
          rd r0 12 M21 fun a23 =>
          ix 20 30 (gR M21 799 a23) p1.toInt32 M21 fun a24 j25 =>
          rd r0 12 M21 fun a26 =>
          ix 20 30 (gR M21 777 a26) p0 M21 fun a27 j28 =>
          if ¬ aI M21 a24 j25 = aI M21 a27 j28 then
            zo 0 (some (some (pI 0), M21))
          else
            zo 1 (some (some (pI 1), M21))
    else if aI M a2 j3 = Int32.ofInt (11) then
      if lg_cmp p1 (-1 : Int64) = 0 then
        zo 1 (some (some (pI 1), M))
      else
        rd r0 12 M fun a30 =>
        clI (ex 196 3 [pR (some a30), pJ p1] M) fun r31 M29 =>
        if r31 = 0 then
          zo 0 (some (some (pI 0), M29))
        else
          rd r0 12 M29 fun a32 =>
          ix 20 30 (gR M29 802 a32) p1.toInt32 M29 fun a33 j34 =>
          rd r0 12 M29 fun a35 =>
          ix 20 30 (gR M29 777 a35) p0 M29 fun a36 j37 =>
          rd r0 12 M29 fun a39 =>
          clI (ex 174 3 [pR (some a39), pI (aI M29 a33 j34), pI (aI M29 a36 j37)] M29) fun r40 M38 =>
          if r40 = 0 then
            zo 0 (some (some (pI 0), M38))
          else
            zo 1 (some (some (pI 1), M38))
    else 
      zo 1 (some (some (pI 1), M)) := (rn_un PP [] 197 32 0 _ [] M).trans rfl
set_option maxRecDepth 100000 in
set_option maxHeartbeats 4000000 in
theorem tX12_caused (r0 : Option Nat) (p0 : Int32) (p1 : Int32) (p2 : Int32) (p3 : Int32) (p4 : Int32) (M : Mem) : ex 198 6 [pR r0, pI p0, pI p1, pI p2, pI p3, pI p4] M =
    rd r0 12 M fun a1 =>
    bd (sI M 807 a1 p0) fun M2 =>
    rd r0 12 M2 fun a3 =>
    bd (sI M2 808 a3 p1) fun M4 =>
    rd r0 12 M4 fun a5 =>
    bd (sI M4 809 a5 p2) fun M6 =>
    rd r0 12 M6 fun a7 =>
    bd (sI M6 810 a7 p3) fun M8 =>
    rd r0 12 M8 fun a9 =>
    bd (sI M8 811 a9 p4) fun M10 =>
    some (some (pI ((-10) - p0)), M10) := (rn_un PP [] 198 20 0 _ [] M).trans rfl
set_option maxRecDepth 100000 in
set_option maxHeartbeats 4000000 in
theorem tX12_made (r0 : Option Nat) (p0 : Int32) (p1 : Int32) (M : Mem) : ex 199 8 [pR r0, pI p0, pI p1] M =
    rd r0 12 M fun a2 =>
    clI (ex 187 2 [pR (some a2), pI p0] M) fun r3 M1 =>
    rn PP 199 9 [some (pR r0), some (pI p0), some (pI p1), none, some (pI 0), none, none, none] [] M1 := (rn_un PP [9, 135, 215] 199 8 0 _ [] M).trans rfl
set_option maxRecDepth 100000 in
set_option maxHeartbeats 4000000 in
theorem tX12_made_9 (l0 : Option Nat) (l1 : Int32) (l2 : Int32) (l4 : Int32) (M : Mem) : rn PP 199 9 [some (pR l0), some (pI l1), some (pI l2), none, some (pI l4), none, none, none] [] M =
    rd l0 12 M fun a1 =>
    ix 20 30 (gR M 774 a1) l1 M fun a2 j3 =>
    if aI M a2 j3 ≤ l4 then
      rn PP 199 135 [some (pR l0), some (pI l1), some (pI l2), none, some (pI 0), none, none, none] [] M
    else
      rd l0 12 M fun a4 =>
      ix 20 30 (gR M 776 a4) ((6 * l1) + l4) M fun a5 j6 =>
      if ¬ aI M a5 j6 = 8 then
        rd l0 12 M fun a7 =>
        ix 20 30 (gR M 776 a7) ((6 * l1) + l4) M fun a8 j9 =>
        if ¬ aI M a8 j9 = 9 then
          if (0 : Int32) = 0 then
            if (0 : Int32) = 0 then
              rn PP 199 9 [some (pR l0), some (pI l1), some (pI l2), none, some (pI (l4 + 1)), none, none, none] [] M
            else
              rd l0 12 M fun a11 =>
              clI (ex 198 6 [pR (some a11), pI 0, pI l1, pI l4, pI (-1), pI l2] M) fun r12 M10 =>
              some (some (pI r12), M10)
          else
            rd l0 12 M fun a13 =>
            ix 20 30 (gR M 777 a13) ((6 * l1) + l4) M fun a14 j15 =>
            rd l0 12 M fun a17 =>
            clI (ex 187 2 [pR (some a17), pI (10 + aI M a14 j15)] M) fun r18 M16 =>
            if r18 = 0 then
              rn PP 199 9 [some (pR l0), some (pI l1), some (pI l2), none, some (pI (l4 + 1)), none, none, none] [] M16
            else
              rd l0 12 M16 fun a20 =>
              clI (ex 198 6 [pR (some a20), pI r18, pI l1, pI l4, pI (-1), pI l2] M16) fun r21 M19 =>
              some (some (pI r21), M19)
        else
          rd l0 12 M fun a22 =>
          ix 21 21 (gR M 806 a22) l4 M fun a23 j24 =>
          if lg_cmp (aJ M a23 j24) (0 : Int64) = 0 then
            if (0 : Int32) = 0 then
              if (0 : Int32) = 0 then
                rn PP 199 9 [some (pR l0), some (pI l1), some (pI l2), none, some (pI (l4 + 1)), none, none, none] [] M
              else
                rd l0 12 M fun a26 =>
                clI (ex 198 6 [pR (some a26), pI 0, pI l1, pI l4, pI (-1), pI l2] M) fun r27 M25 =>
                some (some (pI r27), M25)
            else
              rd l0 12 M fun a28 =>
              ix 20 30 (gR M 777 a28) ((6 * l1) + l4) M fun a29 j30 =>
              rd l0 12 M fun a32 =>
              clI (ex 187 2 [pR (some a32), pI (10 + aI M a29 j30)] M) fun r33 M31 =>
              if r33 = 0 then
                rn PP 199 9 [some (pR l0), some (pI l1), some (pI l2), none, some (pI (l4 + 1)), none, none, none] [] M31
              else
                rd l0 12 M31 fun a35 =>
                clI (ex 198 6 [pR (some a35), pI r33, pI l1, pI l4, pI (-1), pI l2] M31) fun r36 M34 =>
                some (some (pI r36), M34)
          else
            if (1 : Int32) = 0 then
              if (0 : Int32) = 0 then
                rn PP 199 9 [some (pR l0), some (pI l1), some (pI l2), none, some (pI (l4 + 1)), none, none, none] [] M
              else
                rd l0 12 M fun a38 =>
                clI (ex 198 6 [pR (some a38), pI 0, pI l1, pI l4, pI (-1), pI l2] M) fun r39 M37 =>
                some (some (pI r39), M37)
            else
              rd l0 12 M fun a40 =>
              ix 20 30 (gR M 777 a40) ((6 * l1) + l4) M fun a41 j42 =>
              rd l0 12 M fun a44 =>
              clI (ex 187 2 [pR (some a44), pI (10 + aI M a41 j42)] M) fun r45 M43 =>
              if r45 = 0 then
                rn PP 199 9 [some (pR l0), some (pI l1), some (pI l2), none, some (pI (l4 + 1)), none, none, none] [] M43
              else
                rd l0 12 M43 fun a47 =>
                clI (ex 198 6 [pR (some a47), pI r45, pI l1, pI l4, pI (-1), pI l2] M43) fun r48 M46 =>
                some (some (pI r48), M46)
      else
        rd l0 12 M fun a49 =>
        ix 21 21 (gR M 806 a49) l4 M fun a50 j51 =>
        if 0 ≤ lg_cmp (aJ M a50 j51) (0 : Int64) then
          if (1 : Int32) = 0 then
            if (0 : Int32) = 0 then
              rn PP 199 9 [some (pR l0), some (pI l1), some (pI l2), none, some (pI (l4 + 1)), none, none, none] [] M
            else
              rd l0 12 M fun a53 =>
              clI (ex 198 6 [pR (some a53), pI 0, pI l1, pI l4, pI (-1), pI l2] M) fun r54 M52 =>
              some (some (pI r54), M52)
          else
            rd l0 12 M fun a55 =>
            ix 20 30 (gR M 777 a55) ((6 * l1) + l4) M fun a56 j57 =>
            rd l0 12 M fun a59 =>
            clI (ex 187 2 [pR (some a59), pI (10 + aI M a56 j57)] M) fun r60 M58 =>
            if r60 = 0 then
              rn PP 199 9 [some (pR l0), some (pI l1), some (pI l2), none, some (pI (l4 + 1)), none, none, none] [] M58
            else
              rd l0 12 M58 fun a62 =>
              clI (ex 198 6 [pR (some a62), pI r60, pI l1, pI l4, pI (-1), pI l2] M58) fun r63 M61 =>
              some (some (pI r63), M61)
        else
          rd l0 12 M fun a64 =>
          ix 20 30 (gR M 776 a64) ((6 * l1) + l4) M fun a65 j66 =>
          if ¬ aI M a65 j66 = 9 then
            if (0 : Int32) = 0 then
              if (0 : Int32) = 0 then
                rn PP 199 9 [some (pR l0), some (pI l1), some (pI l2), none, some (pI (l4 + 1)), none, none, none] [] M
              else
                rd l0 12 M fun a68 =>
                clI (ex 198 6 [pR (some a68), pI 0, pI l1, pI l4, pI (-1), pI l2] M) fun r69 M67 =>
                some (some (pI r69), M67)
            else
              rd l0 12 M fun a70 =>
              ix 20 30 (gR M 777 a70) ((6 * l1) + l4) M fun a71 j72 =>
              rd l0 12 M fun a74 =>
              clI (ex 187 2 [pR (some a74), pI (10 + aI M a71 j72)] M) fun r75 M73 =>
              if r75 = 0 then
                rn PP 199 9 [some (pR l0), some (pI l1), some (pI l2), none, some (pI (l4 + 1)), none, none, none] [] M73
              else
                rd l0 12 M73 fun a77 =>
                clI (ex 198 6 [pR (some a77), pI r75, pI l1, pI l4, pI (-1), pI l2] M73) fun r78 M76 =>
                some (some (pI r78), M76)
          else
            rd l0 12 M fun a79 =>
            ix 21 21 (gR M 806 a79) l4 M fun a80 j81 =>
            if lg_cmp (aJ M a80 j81) (0 : Int64) = 0 then
              if (0 : Int32) = 0 then
                if (0 : Int32) = 0 then
                  rn PP 199 9 [some (pR l0), some (pI l1), some (pI l2), none, some (pI (l4 + 1)), none, none, none] [] M
                else
                  rd l0 12 M fun a83 =>
                  clI (ex 198 6 [pR (some a83), pI 0, pI l1, pI l4, pI (-1), pI l2] M) fun r84 M82 =>
                  some (some (pI r84), M82)
              else
                rd l0 12 M fun a85 =>
                ix 20 30 (gR M 777 a85) ((6 * l1) + l4) M fun a86 j87 =>
                rd l0 12 M fun a89 =>
                clI (ex 187 2 [pR (some a89), pI (10 + aI M a86 j87)] M) fun r90 M88 =>
                if r90 = 0 then
                  rn PP 199 9 [some (pR l0), some (pI l1), some (pI l2), none, some (pI (l4 + 1)), none, none, none] [] M88
                else
                  rd l0 12 M88 fun a92 =>
                  clI (ex 198 6 [pR (some a92), pI r90, pI l1, pI l4, pI (-1), pI l2] M88) fun r93 M91 =>
                  some (some (pI r93), M91)
            else
              if (1 : Int32) = 0 then
                if (0 : Int32) = 0 then
                  rn PP 199 9 [some (pR l0), some (pI l1), some (pI l2), none, some (pI (l4 + 1)), none, none, none] [] M
                else
                  rd l0 12 M fun a95 =>
                  clI (ex 198 6 [pR (some a95), pI 0, pI l1, pI l4, pI (-1), pI l2] M) fun r96 M94 =>
                  some (some (pI r96), M94)
              else
                rd l0 12 M fun a97 =>
                ix 20 30 (gR M 777 a97) ((6 * l1) + l4) M fun a98 j99 =>
                rd l0 12 M fun a101 =>
                clI (ex 187 2 [pR (some a101), pI (10 + aI M a98 j99)] M) fun r102 M100 =>
                if r102 = 0 then
                  rn PP 199 9 [some (pR l0), some (pI l1), some (pI l2), none, some (pI (l4 + 1)), none, none, none] [] M100
                else
                  rd l0 12 M100 fun a104 =>
                  clI (ex 198 6 [pR (some a104), pI r102, pI l1, pI l4, pI (-1), pI l2] M100) fun r105 M103 =>
                  some (some (pI r105), M103) := (rn_un PP [9, 135, 215] 199 64 9 _ _ M).trans rfl
set_option maxRecDepth 100000 in
set_option maxHeartbeats 4000000 in
theorem tX12_made_135 (l0 : Option Nat) (l1 : Int32) (l2 : Int32) (l4 : Int32) (M : Mem) : rn PP 199 135 [some (pR l0), some (pI l1), some (pI l2), none, some (pI l4), none, none, none] [] M =
    rd l0 12 M fun a1 =>
    ix 20 30 (gR M 779 a1) l1 M fun a2 j3 =>
    if aI M a2 j3 ≤ l4 then
      rd l0 12 M fun a4 =>
      rd l0 12 M fun a5 =>
      ix 20 20 (gR M 802 a4) (gI M 791 a5) M fun a6 j7 =>
      bd (wI M a6 j7 l1) fun M8 =>
      rd l0 12 M8 fun a9 =>
      rd l0 12 M8 fun a10 =>
      ix 20 20 (gR M8 804 a9) (gI M8 791 a10) M8 fun a11 j12 =>
      bd (wI M8 a11 j12 (-1)) fun M13 =>
      rn PP 199 215 [some (pR l0), some (pI l1), none, none, some (pI 0), none, none, none] [] M13
    else
      rd l0 12 M fun a15 =>
      clI (ex 200 9 [pR (some a15), pI l1, pI ((4 * l1) + l4)] M) fun r16 M14 =>
      if r16 = 0 then
        rn PP 199 135 [some (pR l0), some (pI l1), some (pI l2), none, some (pI (l4 + 1)), none, none, none] [] M14
      else
        rd l0 12 M14 fun a17 =>
        ix 20 30 (gR M14 780 a17) ((4 * l1) + l4) M14 fun a18 j19 =>
        rd l0 12 M14 fun a21 =>
        clI (ex 198 6 [pR (some a21), pI r16, pI l1, pI (aI M14 a18 j19), pI l4, pI l2] M14) fun r22 M20 =>
        some (some (pI r22), M20) := (rn_un PP [9, 135, 215] 199 33 135 _ _ M).trans rfl
set_option maxRecDepth 100000 in
set_option maxHeartbeats 4000000 in
theorem tX12_made_215 (l0 : Option Nat) (l1 : Int32) (l4 : Int32) (M : Mem) : rn PP 199 215 [some (pR l0), some (pI l1), none, none, some (pI l4), none, none, none] [] M =
    if 6 ≤ l4 then
      rd l0 12 M fun a1 =>
      rd l0 12 M fun a2 =>
      bd (sI M 791 a2 (gI M 791 a1 + 1)) fun M3 =>
      rd l0 12 M3 fun a4 =>
      some (some (pI (gI M3 791 a4 - 1)), M3)
    else
      rd l0 12 M fun a5 =>
      rd l0 12 M fun a6 =>
      rd l0 12 M fun a7 =>
      ix 20 30 (gR M 774 a7) l1 M fun a8 j9 =>
      if aI M a8 j9 ≤ l4 then
        ix 21 21 (gR M 803 a5) ((6 * gI M 791 a6) + l4) M fun a10 j11 =>
        bd (wJ M a10 j11 (0 : Int64)) fun M12 =>
        rn PP 199 215 [some (pR l0), some (pI l1), none, none, some (pI (l4 + 1)), none, none, none] [] M12
      else
        rd l0 12 M fun a13 =>
        ix 21 21 (gR M 806 a13) l4 M fun a14 j15 =>
        ix 21 21 (gR M 803 a5) ((6 * gI M 791 a6) + l4) M fun a16 j17 =>
        bd (wJ M a16 j17 (aJ M a14 j15)) fun M18 =>
        rn PP 199 215 [some (pR l0), some (pI l1), none, none, some (pI (l4 + 1)), none, none, none] [] M18 := (rn_un PP [9, 135, 215] 199 27 215 _ _ M).trans rfl
set_option maxRecDepth 100000 in
set_option maxHeartbeats 4000000 in
theorem tX12_checked (r0 : Option Nat) (p0 : Int32) (p1 : Int32) (M : Mem) : ex 200 9 [pR r0, pI p0, pI p1] M =
    rd r0 12 M fun a1 =>
    ix 20 30 (gR M 780 a1) p1 M fun a2 j3 =>
    rd r0 12 M fun a4 =>
    ix 21 21 (gR M 806 a4) (aI M a2 j3) M fun a5 j6 =>
    rd r0 12 M fun a7 =>
    ix 21 21 (gR M 782 a7) p1 M fun a8 j9 =>
    rd r0 12 M fun a10 =>
    ix 20 30 (gR M 781 a10) p1 M fun a11 j12 =>
    if aI M a11 j12 = Int32.ofInt (0) then
      rd r0 12 M fun a13 =>
      ix 20 30 (gR M 776 a13) ((6 * p0) + aI M a2 j3) M fun a14 j15 =>
      rd r0 12 M fun a16 =>
      ix 21 21 (gR M 783 a16) p1 M fun a17 j18 =>
      clI (ex 201 9 [pI (aI M a14 j15), pJ (aJ M a5 j6), pJ (aJ M a8 j9), pJ (aJ M a17 j18)] M) fun r20 M19 =>
      if r20 = 0 then
        some (some (pI 1), M19)
      else
        some (some (pI 0), M19)
    else if aI M a11 j12 = Int32.ofInt (1) then
      if ¬ lg_cmp (aJ M a5 j6) (-1 : Int64) = 0 then
        some (some (pI 0), M)
      else
        some (some (pI 2), M)
    else if aI M a11 j12 = Int32.ofInt (2) then
      if ¬ lg_cmp (aJ M a5 j6) (0 : Int64) = 0 then
        some (some (pI 0), M)
      else
        some (some (pI 3), M)
    else if aI M a11 j12 = Int32.ofInt (3) then
      gd (¬ (8 : Int64) = 0)
      (if 0 ≤ lg_cmp (aJ M a5 j6 - aJ M a5 j6 / (8 : Int64) * (8 : Int64)) (0 : Int64) then
        some (some (pI 0), M)
      else
        some (some (pI 4), M))
    else if aI M a11 j12 = Int32.ofInt (4) then
      if ¬ lg_cmp (aJ M a5 j6) (-1 : Int64) = 0 then
        rd r0 12 M fun a21 =>
        ix 20 30 (gR M 800 a21) ((aJ M a5 j6).toInt32) M fun a22 j23 =>
        clI (ex 157 6 [pJ (aJ M a8 j9), pJ (0 : Int64), pJ ((aI M a22 j23 - 1).toInt64)] M) fun r25 M24 =>
        if r25 = 0 then
          some (some (pI 5), M24)
        else
          some (some (pI 0), M24)
      else
        some (some (pI 2), M)
    else if aI M a11 j12 = Int32.ofInt (5) then
      if lg_cmp (aJ M a5 j6) (-1 : Int64) = 0 then
        some (some (pI 0), M)
      else
        rd r0 12 M fun a26 =>
        ix 20 30 (gR M 802 a26) ((aJ M a5 j6).toInt32) M fun a27 j28 =>
        if lg_cmp ((aI M a27 j28).toInt64) (aJ M a8 j9) = 0 then
          some (some (pI 0), M)
        else
          some (some (pI 6), M)
    else 
      if lg_cmp (aJ M a5 j6) (-1 : Int64) = 0 then
        some (some (pI 0), M)
      else
        rd r0 12 M fun a29 =>
        rd r0 12 M fun a30 =>
        ix 20 30 (gR M 777 a30) ((6 * p0) + aI M a2 j3) M fun a31 j32 =>
        ix 22 22 (gR M 771 a29) ((8 * aI M a31 j32) + (aJ M a5 j6).toInt32) M fun a33 j34 =>
        if ¬ aI M a33 j34 = 0 then
          some (some (pI 0), M)
        else
          some (some (pI 7), M) := (rn_un PP [] 200 47 0 _ [] M).trans rfl
set_option maxRecDepth 100000 in
set_option maxHeartbeats 4000000 in
theorem tX12_isBetween (p0 : Int32) (p1 : Int64) (p2 : Int64) (p3 : Int64) (M : Mem) : ex 201 9 [pI p0, pJ p1, pJ p2, pJ p3] M =
    if 6 ≤ p0 then
      if ¬ p0 = 6 then
        if ¬ lg_cmp p1 (9221120237041090560 : Int64) = 0 then
          if ¬ p0 = 6 then
            gd (vn_snl2d p1 = false)
            (if Op.cmpValue (FP.dcmp p1.toUInt64 (FP.l2d p2)) .l < 0 then
              zo 0 (some (some (pI 0), M))
            else
              if 0 < Op.cmpValue (FP.dcmp p1.toUInt64 (FP.l2d p3)) .g then
                zo 0 (some (some (pI 0), M))
              else
                zo 1 (some (some (pI 1), M)))
          else
            gd (vn_sni2f p1.toInt32 = false)
            (gd (FP.f2d p1.toInt32.toUInt32 &&& 0x7fffffffffffffff ≤ 0x7ff0000000000000)
            (if Op.cmpValue (FP.dcmp (FP.f2d p1.toInt32.toUInt32) (FP.l2d p2)) .l < 0 then
              zo 0 (some (some (pI 0), M))
            else
              if 0 < Op.cmpValue (FP.dcmp (FP.f2d p1.toInt32.toUInt32) (FP.l2d p3)) .g then
                zo 0 (some (some (pI 0), M))
              else
                zo 1 (some (some (pI 1), M))))
        else
          zo 0 (some (some (pI 0), M))
      else
        if ¬ lg_cmp p1 (2143289344 : Int64) = 0 then
          if ¬ p0 = 6 then
            gd (vn_snl2d p1 = false)
            (if Op.cmpValue (FP.dcmp p1.toUInt64 (FP.l2d p2)) .l < 0 then
              zo 0 (some (some (pI 0), M))
            else
              if 0 < Op.cmpValue (FP.dcmp p1.toUInt64 (FP.l2d p3)) .g then
                zo 0 (some (some (pI 0), M))
              else
                zo 1 (some (some (pI 1), M)))
          else
            gd (vn_sni2f p1.toInt32 = false)
            (gd (FP.f2d p1.toInt32.toUInt32 &&& 0x7fffffffffffffff ≤ 0x7ff0000000000000)
            (if Op.cmpValue (FP.dcmp (FP.f2d p1.toInt32.toUInt32) (FP.l2d p2)) .l < 0 then
              zo 0 (some (some (pI 0), M))
            else
              if 0 < Op.cmpValue (FP.dcmp (FP.f2d p1.toInt32.toUInt32) (FP.l2d p3)) .g then
                zo 0 (some (some (pI 0), M))
              else
                zo 1 (some (some (pI 1), M))))
        else
          zo 0 (some (some (pI 0), M))
    else
      if lg_cmp p1 p2 < 0 then
        zo 0 (some (some (pI 0), M))
      else
        if 0 < lg_cmp p1 p3 then
          zo 0 (some (some (pI 0), M))
        else
          zo 1 (some (some (pI 1), M)) := (rn_un PP [] 201 34 0 _ [] M).trans rfl
set_option maxRecDepth 100000 in
set_option maxHeartbeats 4000000 in
theorem tX12_make (r0 : Option Nat) (p0 : Int32) (M : Mem) : ex 202 4 [pR r0, pI p0] M =
    rd r0 12 M fun a2 =>
    clI (ex 161 2 [pR (some a2), pI p0] M) fun r3 M1 =>
    if ¬ r3 = 0 then
      rn PP 202 12 [some (pR r0), some (pI p0), some (pI 0), none] [] M1
    else
      some (some (pI (-1)), M1) := (rn_un PP [12, 65] 202 8 0 _ [] M).trans rfl
set_option maxRecDepth 100000 in
set_option maxHeartbeats 4000000 in
theorem tX12_make_12 (l0 : Option Nat) (l1 : Int32) (l2 : Int32) (M : Mem) : rn PP 202 12 [some (pR l0), some (pI l1), some (pI l2), none] [] M =
    rd l0 12 M fun a1 =>
    ix 20 30 (gR M 774 a1) l1 M fun a2 j3 =>
    if aI M a2 j3 ≤ l2 then
      rd l0 12 M fun a4 =>
      if ¬ gI M 792 a4 = 100 then
        rn PP 202 65 [some (pR l0), some (pI l1), some (pI 0), none] [] M
      else
        some (some (pI (-3)), M)
    else
      rd l0 12 M fun a5 =>
      ix 21 21 (gR M 805 a5) l2 M fun a6 j7 =>
      rd l0 12 M fun a9 =>
      clI (ex 197 4 [pR (some a9), pI ((6 * l1) + l2), pJ (aJ M a6 j7)] M) fun r10 M8 =>
      if ¬ r10 = 0 then
        rn PP 202 12 [some (pR l0), some (pI l1), some (pI (l2 + 1)), none] [] M8
      else
        some (some (pI (-1)), M8) := (rn_un PP [12, 65] 202 24 12 _ _ M).trans rfl
set_option maxRecDepth 100000 in
set_option maxHeartbeats 4000000 in
theorem tX12_make_65 (l0 : Option Nat) (l1 : Int32) (l2 : Int32) (M : Mem) : rn PP 202 65 [some (pR l0), some (pI l1), some (pI l2), none] [] M =
    rd l0 12 M fun a1 =>
    ix 20 30 (gR M 774 a1) l1 M fun a2 j3 =>
    if aI M a2 j3 ≤ l2 then
      rd l0 12 M fun a5 =>
      clI (ex 199 8 [pR (some a5), pI l1, pI (-1)] M) fun r6 M4 =>
      rd l0 12 M4 fun a7 =>
      if r6 < 0 then
        rd l0 12 M4 fun a8 =>
        bd (sI M4 792 a8 (gI M4 792 a7 + 0)) fun M9 =>
        some (some (pI r6), M9)
      else
        rd l0 12 M4 fun a10 =>
        bd (sI M4 792 a10 (gI M4 792 a7 + 1)) fun M11 =>
        some (some (pI r6), M11)
    else
      rd l0 12 M fun a12 =>
      rd l0 12 M fun a13 =>
      ix 20 30 (gR M 776 a13) ((6 * l1) + l2) M fun a14 j15 =>
      rd l0 12 M fun a16 =>
      ix 21 21 (gR M 805 a16) l2 M fun a17 j18 =>
      clJ (ex 177 3 [pI (aI M a14 j15), pJ (aJ M a17 j18)] M) fun r20 M19 =>
      ix 21 21 (gR M 806 a12) l2 M19 fun a21 j22 =>
      bd (wJ M19 a21 j22 r20) fun M23 =>
      rn PP 202 65 [some (pR l0), some (pI l1), some (pI (l2 + 1)), none] [] M23 := (rn_un PP [12, 65] 202 27 65 _ _ M).trans rfl
set_option maxRecDepth 100000 in
set_option maxHeartbeats 4000000 in
theorem tX12_cause (r0 : Option Nat) (p0 : Int32) (M : Mem) : ex 203 2 [pR r0, pI p0] M =
    if p0 = Int32.ofInt (0) then
      rd r0 12 M fun a1 =>
      some (some (pI (gI M 807 a1)), M)
    else if p0 = Int32.ofInt (1) then
      rd r0 12 M fun a2 =>
      some (some (pI (gI M 808 a2)), M)
    else if p0 = Int32.ofInt (2) then
      rd r0 12 M fun a3 =>
      some (some (pI (gI M 809 a3)), M)
    else if p0 = Int32.ofInt (3) then
      rd r0 12 M fun a4 =>
      some (some (pI (gI M 810 a4)), M)
    else if p0 = Int32.ofInt (4) then
      rd r0 12 M fun a5 =>
      some (some (pI (gI M 811 a5)), M)
    else 
      some (some (pI (-2147483648)), M) := (rn_un PP [] 203 6 0 _ [] M).trans rfl
set_option maxRecDepth 100000 in
set_option maxHeartbeats 4000000 in
theorem tX12_told (r0 : Option Nat) (p0 : Int32) (p1 : Int32) (M : Mem) : ex 204 3 [pR r0, pI p0, pI p1] M =
    rd r0 12 M fun a2 =>
    clI (ex 196 3 [pR (some a2), pJ p0.toInt64] M) fun r3 M1 =>
    if r3 = 0 then
      some (some (pJ (-9223372036854775808 : Int64)), M1)
    else
      rd r0 12 M1 fun a4 =>
      rd r0 12 M1 fun a5 =>
      ix 20 30 (gR M1 802 a5) p0 M1 fun a6 j7 =>
      ix 20 30 (gR M1 774 a4) (aI M1 a6 j7) M1 fun a8 j9 =>
      clI (ex 157 6 [pJ p1.toInt64, pJ (0 : Int64), pJ ((aI M1 a8 j9 - 1).toInt64)] M1) fun r11 M10 =>
      if r11 = 0 then
        some (some (pJ (-9223372036854775808 : Int64)), M10)
      else
        rd r0 12 M10 fun a12 =>
        ix 21 21 (gR M10 803 a12) ((6 * p0) + p1) M10 fun a13 j14 =>
        some (some (pJ (aJ M10 a13 j14)), M10) := (rn_un PP [] 204 31 0 _ [] M).trans rfl
set_option maxRecDepth 100000 in
set_option maxHeartbeats 4000000 in
theorem tX12_of (r0 : Option Nat) (p0 : Int32) (M : Mem) : ex 205 2 [pR r0, pI p0] M =
    rd r0 12 M fun a2 =>
    clI (ex 196 3 [pR (some a2), pJ p0.toInt64] M) fun r3 M1 =>
    if r3 = 0 then
      some (some (pI (-1)), M1)
    else
      rd r0 12 M1 fun a4 =>
      ix 20 30 (gR M1 802 a4) p0 M1 fun a5 j6 =>
      some (some (pI (aI M1 a5 j6)), M1) := (rn_un PP [] 205 12 0 _ [] M).trans rfl
set_option maxRecDepth 100000 in
set_option maxHeartbeats 4000000 in
theorem tX12_tag (r0 : Option Nat) (p0 : Int32) (p1 : Int32) (M : Mem) : ex 206 3 [pR r0, pI p0, pI p1] M =
    rd r0 12 M fun a2 =>
    clI (ex 196 3 [pR (some a2), pJ p0.toInt64] M) fun r3 M1 =>
    if r3 = 0 then
      some (some (pI (-1)), M1)
    else
      rd r0 12 M1 fun a5 =>
      clI (ex 163 2 [pR (some a5), pI p1] M1) fun r6 M4 =>
      if ¬ r6 = 0 then
        rd r0 12 M4 fun a8 =>
        clV (ex 172 5 [pR (some a8), pI p1] M4) fun M7 =>
        rd r0 12 M7 fun a9 =>
        ix 20 30 (gR M7 802 a9) p0 M7 fun a10 j11 =>
        rd r0 12 M7 fun a13 =>
        clI (ex 173 3 [pR (some a13), pI (aI M7 a10 j11)] M7) fun r14 M12 =>
        some (some (pI r14), M12)
      else
        some (some (pI (-1)), M4) := (rn_un PP [] 206 20 0 _ [] M).trans rfl
set_option maxRecDepth 100000 in
set_option maxHeartbeats 4000000 in
theorem tX12_areLike (r0 : Option Nat) (p0 : Int32) (p1 : Int32) (M : Mem) : ex 207 10 [pR r0, pI p0, pI p1] M =
    rd r0 12 M fun a1 =>
    ix 20 30 (gR M 802 a1) p0 M fun a2 j3 =>
    rd r0 12 M fun a4 =>
    ix 20 30 (gR M 802 a4) p1 M fun a5 j6 =>
    if ¬ aI M a5 j6 = aI M a2 j3 then
      rn PP 207 27 [some (pR r0), some (pI p0), some (pI p1), some (pI (aI M a2 j3)), some (pI 0), some (pI 0), none, none, none, none] [] M
    else
      rn PP 207 27 [some (pR r0), some (pI p0), some (pI p1), some (pI (aI M a2 j3)), some (pI 1), some (pI 0), none, none, none, none] [] M := (rn_un PP [27] 207 18 0 _ [] M).trans rfl
set_option maxRecDepth 100000 in
set_option maxHeartbeats 4000000 in
theorem tX12_areLike_27 (l0 : Option Nat) (l1 : Int32) (l2 : Int32) (l3 : Int32) (l4 : Int32) (l5 : Int32) (M : Mem) : rn PP 207 27 [some (pR l0), some (pI l1), some (pI l2), some (pI l3), some (pI l4), some (pI l5), none, none, none, none] [] M =
    rd l0 12 M fun a1 =>
    ix 20 30 (gR M 774 a1) l3 M fun a2 j3 =>
    if aI M a2 j3 ≤ l5 then
      zo l4 (some (some (pI l4), M))
    else
      if l4 = 0 then
        zo l4 (some (some (pI l4), M))
      else
        rd l0 12 M fun a4 =>
        ix 21 21 (gR M 803 a4) ((6 * l1) + l5) M fun a5 j6 =>
        rd l0 12 M fun a7 =>
        ix 21 21 (gR M 803 a7) ((6 * l2) + l5) M fun a8 j9 =>
        if lg_cmp (aJ M a5 j6) (aJ M a8 j9) = 0 then
          rn PP 207 27 [some (pR l0), some (pI l1), some (pI l2), some (pI l3), some (pI 1), some (pI (l5 + 1)), none, none, none, none] [] M
        else
          rd l0 12 M fun a10 =>
          ix 20 30 (gR M 776 a10) ((6 * l3) + l5) M fun a11 j12 =>
          if ¬ aI M a11 j12 = 11 then
            rn PP 207 27 [some (pR l0), some (pI l1), some (pI l2), some (pI l3), some (pI 0), some (pI (l5 + 1)), none, none, none, none] [] M
          else
            if lg_cmp (aJ M a5 j6) (0 : Int64) < 0 then
              rn PP 207 27 [some (pR l0), some (pI l1), some (pI l2), some (pI l3), some (pI 0), some (pI (l5 + 1)), none, none, none, none] [] M
            else
              if lg_cmp (aJ M a8 j9) (0 : Int64) < 0 then
                rn PP 207 27 [some (pR l0), some (pI l1), some (pI l2), some (pI l3), some (pI 0), some (pI (l5 + 1)), none, none, none, none] [] M
              else
                rd l0 12 M fun a13 =>
                ix 20 30 (gR M 812 a13) ((aJ M a5 j6).toInt32) M fun a14 j15 =>
                rd l0 12 M fun a16 =>
                ix 20 30 (gR M 812 a16) ((aJ M a8 j9).toInt32) M fun a17 j18 =>
                if ¬ aI M a14 j15 = aI M a17 j18 then
                  rn PP 207 27 [some (pR l0), some (pI l1), some (pI l2), some (pI l3), some (pI 0), some (pI (l5 + 1)), none, none, none, none] [] M
                else
                  rn PP 207 27 [some (pR l0), some (pI l1), some (pI l2), some (pI l3), some (pI 1), some (pI (l5 + 1)), none, none, none, none] [] M := (rn_un PP [27] 207 66 27 _ _ M).trans rfl
set_option maxRecDepth 100000 in
set_option maxHeartbeats 4000000 in
theorem tX12_same (r0 : Option Nat) (p0 : Int32) (p1 : Int32) (M : Mem) : ex 208 6 [pR r0, pI p0, pI p1] M =
    rd r0 12 M fun a2 =>
    clI (ex 196 3 [pR (some a2), pJ p0.toInt64] M) fun r3 M1 =>
    if r3 = 0 then
      some (some (pI (-1)), M1)
    else
      rd r0 12 M1 fun a5 =>
      clI (ex 196 3 [pR (some a5), pJ p1.toInt64] M1) fun r6 M4 =>
      if ¬ r6 = 0 then
        if p0 ≤ p1 then
          rn PP 208 34 [some (pR r0), some (pI p0), some (pI p1), some (pI p1), some (pI 0), none] [] M4
        else
          rn PP 208 34 [some (pR r0), some (pI p0), some (pI p1), some (pI p0), some (pI 0), none] [] M4
      else
        some (some (pI (-1)), M4) := (rn_un PP [34, 55] 208 20 0 _ [] M).trans rfl
set_option maxRecDepth 100000 in
set_option maxHeartbeats 4000000 in
theorem tX12_same_34 (l0 : Option Nat) (l1 : Int32) (l2 : Int32) (l3 : Int32) (l4 : Int32) (M : Mem) : rn PP 208 34 [some (pR l0), some (pI l1), some (pI l2), some (pI l3), some (pI l4), none] [] M =
    if l3 < l4 then
      rd l0 12 M fun a1 =>
      ix 20 30 (gR M 812 a1) l1 M fun a2 j3 =>
      rd l0 12 M fun a4 =>
      ix 20 30 (gR M 812 a4) l2 M fun a5 j6 =>
      if ¬ aI M a2 j3 = aI M a5 j6 then
        some (some (pI 0), M)
      else
        some (some (pI 1), M)
    else
      rd l0 12 M fun a7 =>
      ix 20 20 (gR M 812 a7) l4 M fun a8 j9 =>
      bd (wI M a8 j9 l4) fun M10 =>
      rn PP 208 55 [some (pR l0), some (pI l1), some (pI l2), some (pI l3), some (pI l4), some (pI (l4 - 1))] [] M10 := (rn_un PP [34, 55] 208 16 34 _ _ M).trans rfl
set_option maxRecDepth 100000 in
set_option maxHeartbeats 4000000 in
theorem tX12_same_55 (l0 : Option Nat) (l1 : Int32) (l2 : Int32) (l3 : Int32) (l4 : Int32) (l5 : Int32) (M : Mem) : rn PP 208 55 [some (pR l0), some (pI l1), some (pI l2), some (pI l3), some (pI l4), some (pI l5)] [] M =
    if l5 < 0 then
      rn PP 208 34 [some (pR l0), some (pI l1), some (pI l2), some (pI l3), some (pI (l4 + 1)), none] [] M
    else
      rd l0 12 M fun a1 =>
      rd l0 12 M fun a2 =>
      ix 20 30 (gR M 812 a2) l5 M fun a3 j4 =>
      if ¬ aI M a3 j4 = l5 then
        rd l0 12 M fun a5 =>
        ix 20 30 (gR M 812 a5) l4 M fun a6 j7 =>
        ix 20 20 (gR M 812 a1) l4 M fun a8 j9 =>
        bd (wI M a8 j9 (aI M a6 j7)) fun M10 =>
        rn PP 208 55 [some (pR l0), some (pI l1), some (pI l2), some (pI l3), some (pI l4), some (pI (l5 + (-1)))] [] M10
      else
        rd l0 12 M fun a12 =>
        clI (ex 207 10 [pR (some a12), pI l5, pI l4] M) fun r13 M11 =>
        if r13 = 0 then
          rd l0 12 M11 fun a14 =>
          ix 20 30 (gR M11 812 a14) l4 M11 fun a15 j16 =>
          ix 20 20 (gR M 812 a1) l4 M11 fun a17 j18 =>
          bd (wI M11 a17 j18 (aI M11 a15 j16)) fun M19 =>
          rn PP 208 55 [some (pR l0), some (pI l1), some (pI l2), some (pI l3), some (pI l4), some (pI (l5 + (-1)))] [] M19
        else
          ix 20 20 (gR M 812 a1) l4 M11 fun a20 j21 =>
          bd (wI M11 a20 j21 l5) fun M22 =>
          rn PP 208 55 [some (pR l0), some (pI l1), some (pI l2), some (pI l3), some (pI l4), some (pI (l5 + (-1)))] [] M22 := (rn_un PP [34, 55] 208 25 55 _ _ M).trans rfl
set_option maxRecDepth 100000 in
set_option maxHeartbeats 4000000 in
theorem tX12_named (r0 : Option Nat) (p0 : Int32) (p1 : Int64) (M : Mem) : ex 209 6 [pR r0, pI p0, pJ p1] M =
    rd r0 12 M fun a2 =>
    clI (ex 159 2 [pR (some a2), pI p0] M) fun r3 M1 =>
    if ¬ r3 = 0 then
      rd r0 12 M1 fun a5 =>
      clI (ex 187 2 [pR (some a5), pI (10 + p0)] M1) fun r6 M4 =>
      if r6 = 0 then
        rd r0 12 M4 fun a8 =>
        clI (ex 165 5 [pR (some a8), pI p0, pJ p1] M4) fun r9 M7 =>
        if ¬ r9 = (-1) then
          some (some (pI r9), M7)
        else
          some (some (pI (-18)), M7)
      else
        some (some (pI ((-10) - r6)), M4)
    else
      some (some (pI (-1)), M1) := (rn_un PP [] 209 24 0 _ [] M).trans rfl
set_option maxRecDepth 100000 in
set_option maxHeartbeats 4000000 in
theorem tX12_once (r0 : Option Nat) (p0 : Int32) (p1 : Int32) (p2 : Int32) (M : Mem) : ex 210 4 [pR r0, pI p0, pI p1, pI p2] M =
    rd r0 12 M fun a1 =>
    ix 22 22 (gR M 771 a1) ((8 * p0) + p1) M fun a2 j3 =>
    if aI M a2 j3 = 0 then
      some (some (pI (p2 + p1)), M)
    else
      some (some (pI ((3 * (p2 + p1)) - 1)), M) := (rn_un PP [] 210 19 0 _ [] M).trans rfl
set_option maxRecDepth 100000 in
set_option maxHeartbeats 4000000 in
theorem tX12_work (r0 : Option Nat) (p0 : Int32) (p1 : Int32) (p2 : Int32) (p3 : Int32) (M : Mem) : ex 211 8 [pR r0, pI p0, pI p1, pI p2, pI p3] M =
    rd r0 12 M fun a2 =>
    clI (ex 160 3 [pR (some a2), pI p0, pI p1] M) fun r3 M1 =>
    if r3 = 0 then
      some (some (pJ (-9223372036854775808 : Int64)), M1)
    else
      clI (ex 157 6 [pJ p2.toInt64, pJ (0 : Int64), pJ (2 : Int64)] M1) fun r5 M4 =>
      if ¬ r5 = 0 then
        rd r0 12 M4 fun a7 =>
        clI (ex 187 2 [pR (some a7), pI (10 + p0)] M4) fun r8 M6 =>
        if r8 = 0 then
          if ¬ p2 = 2 then
            rd r0 12 M6 fun a10 =>
            clI (ex 210 4 [pR (some a10), pI p0, pI p1, pI p3] M6) fun r11 M9 =>
            rd r0 12 M9 fun a12 =>
            ix 22 22 (gR M9 771 a12) ((8 * p0) + p1) M9 fun a13 j14 =>
            if aI M9 a13 j14 = 0 then
              if ¬ p2 = 0 then
                if (0 : Int32) = 0 then
                  rd r0 12 M9 fun a16 =>
                  clI (ex 210 4 [pR (some a16), pI p0, pI p1, pI r11] M9) fun r17 M15 =>
                  some (some (pJ r17.toInt64), M15)
                else
                  some (some (pJ ((p3 - r11).toInt64)), M9)
              else
                some (some (pJ r11.toInt64), M9)
            else
              gd (¬ 2 = 0)
              (if ¬ (p1 - p1 / 2 * 2) = 1 then
                if ¬ p2 = 0 then
                  if (0 : Int32) = 0 then
                    rd r0 12 M9 fun a19 =>
                    clI (ex 210 4 [pR (some a19), pI p0, pI p1, pI r11] M9) fun r20 M18 =>
                    some (some (pJ r20.toInt64), M18)
                  else
                    some (some (pJ ((p3 - r11).toInt64)), M9)
                else
                  some (some (pJ r11.toInt64), M9)
              else
                if ¬ p2 = 0 then
                  if (1 : Int32) = 0 then
                    rd r0 12 M9 fun a22 =>
                    clI (ex 210 4 [pR (some a22), pI p0, pI p1, pI r11] M9) fun r23 M21 =>
                    some (some (pJ r23.toInt64), M21)
                  else
                    some (some (pJ ((p3 - r11).toInt64)), M9)
                else
                  some (some (pJ r11.toInt64), M9))
          else
            some (some (pJ ((p3 + p1).toInt64)), M6)
        else
          some (some (pJ ((-9223372036854775808 : Int64) + r8.toInt64)), M6)
      else
        some (some (pJ (-9223372036854775808 : Int64)), M4) := (rn_un PP [] 211 57 0 _ [] M).trans rfl
set_option maxRecDepth 100000 in
set_option maxHeartbeats 4000000 in
theorem tX12_unkept (r0 : Option Nat) (p0 : Int32) (M : Mem) : ex 212 7 [pR r0, pI p0] M =
    rn PP 212 2 [some (pR r0), some (pI p0), some (pI 0), none, none, none, none] [] M := (rn_un PP [2, 33, 62] 212 4 0 _ [] M).trans rfl
set_option maxRecDepth 100000 in
set_option maxHeartbeats 4000000 in
theorem tX12_unkept_2 (l0 : Option Nat) (l1 : Int32) (l2 : Int32) (M : Mem) : rn PP 212 2 [some (pR l0), some (pI l1), some (pI l2), none, none, none, none] [] M =
    if l1 < l2 then
      rn PP 212 33 [some (pR l0), none, some (pI 0), some (pI l1), none, none, none] [] M
    else
      rd l0 12 M fun a1 =>
      if ¬ l2 = l1 then
        ix 22 22 (gR M 827 a1) l2 M fun a2 j3 =>
        zo 0 (bd (wI M a2 j3 0) fun M4 =>
        rn PP 212 2 [some (pR l0), some (pI l1), some (pI (l2 + 1)), none, none, none, none] [] M4)
      else
        ix 22 22 (gR M 827 a1) l2 M fun a5 j6 =>
        zo 1 (bd (wI M a5 j6 1) fun M7 =>
        rn PP 212 2 [some (pR l0), some (pI l1), some (pI (l2 + 1)), none, none, none, none] [] M7) := (rn_un PP [2, 33, 62] 212 16 2 _ _ M).trans rfl
set_option maxRecDepth 100000 in
set_option maxHeartbeats 4000000 in
theorem tX12_unkept_33 (l0 : Option Nat) (l2 : Int32) (l3 : Int32) (M : Mem) : rn PP 212 33 [some (pR l0), none, some (pI l2), some (pI l3), none, none, none] [] M =
    if l3 < 0 then
      some (some (pI l2), M)
    else
      rd l0 12 M fun a1 =>
      ix 22 22 (gR M 827 a1) l3 M fun a2 j3 =>
      if aI M a2 j3 = 0 then
        rn PP 212 33 [some (pR l0), none, some (pI l2), some (pI (l3 + (-1))), none, none, none] [] M
      else
        rd l0 12 M fun a4 =>
        ix 20 30 (gR M 804 a4) l3 M fun a5 j6 =>
        if ¬ aI M a5 j6 = (-1) then
          rn PP 212 33 [some (pR l0), none, some (pI l2), some (pI (l3 + (-1))), none, none, none] [] M
        else
          rn PP 212 62 [some (pR l0), none, some (pI (l2 + 1)), some (pI l3), some (pI 0), none, none] [] M := (rn_un PP [2, 33, 62] 212 18 33 _ _ M).trans rfl
set_option maxRecDepth 100000 in
set_option maxHeartbeats 4000000 in
theorem tX12_unkept_62 (l0 : Option Nat) (l2 : Int32) (l3 : Int32) (l4 : Int32) (M : Mem) : rn PP 212 62 [some (pR l0), none, some (pI l2), some (pI l3), some (pI l4), none, none] [] M =
    rd l0 12 M fun a1 =>
    rd l0 12 M fun a2 =>
    ix 20 30 (gR M 802 a2) l3 M fun a3 j4 =>
    ix 20 30 (gR M 774 a1) (aI M a3 j4) M fun a5 j6 =>
    if aI M a5 j6 ≤ l4 then
      rn PP 212 33 [some (pR l0), none, some (pI l2), some (pI (l3 + (-1))), none, none, none] [] M
    else
      rd l0 12 M fun a7 =>
      ix 21 21 (gR M 803 a7) ((6 * l3) + l4) M fun a8 j9 =>
      rd l0 12 M fun a10 =>
      rd l0 12 M fun a11 =>
      ix 20 30 (gR M 802 a11) l3 M fun a12 j13 =>
      ix 20 30 (gR M 776 a10) ((6 * aI M a12 j13) + l4) M fun a14 j15 =>
      if ¬ aI M a14 j15 = 11 then
        rn PP 212 62 [some (pR l0), none, some (pI l2), some (pI l3), some (pI (l4 + 1)), none, none] [] M
      else
        if lg_cmp (aJ M a8 j9) (0 : Int64) < 0 then
          rn PP 212 62 [some (pR l0), none, some (pI l2), some (pI l3), some (pI (l4 + 1)), none, none] [] M
        else
          rd l0 12 M fun a16 =>
          ix 22 22 (gR M 827 a16) ((aJ M a8 j9).toInt32) M fun a17 j18 =>
          zo 1 (bd (wI M a17 j18 1) fun M19 =>
          rn PP 212 62 [some (pR l0), none, some (pI l2), some (pI l3), some (pI (l4 + 1)), none, none] [] M19) := (rn_un PP [2, 33, 62] 212 45 62 _ _ M).trans rfl
set_option maxRecDepth 100000 in
set_option maxHeartbeats 4000000 in
theorem tX12_keep (r0 : Option Nat) (p0 : Int32) (M : Mem) : ex 213 8 [pR r0, pI p0] M =
    rd r0 12 M fun a2 =>
    clI (ex 196 3 [pR (some a2), pJ p0.toInt64] M) fun r3 M1 =>
    if ¬ r3 = 0 then
      rd r0 12 M1 fun a4 =>
      ix 20 30 (gR M1 804 a4) p0 M1 fun a5 j6 =>
      if aI M1 a5 j6 = (-1) then
        rd r0 12 M1 fun a8 =>
        clI (ex 212 7 [pR (some a8), pI p0] M1) fun r9 M7 =>
        rd r0 12 M7 fun a10 =>
        if r9 ≤ (64 - gI M7 813 a10) then
          rd r0 12 M7 fun a11 =>
          ix 20 20 (gR M7 825 a11) 0 M7 fun a12 j13 =>
          bd (wI M7 a12 j13 p0) fun M14 =>
          rd r0 12 M14 fun a15 =>
          ix 20 20 (gR M14 826 a15) 0 M14 fun a16 j17 =>
          bd (wI M14 a16 j17 0) fun M18 =>
          rn PP 213 62 [some (pR r0), some (pI p0), some (pI 1), none, none, none, none, none] [] M18
        else
          some (some (pI (-3)), M7)
      else
        rd r0 12 M1 fun a19 =>
        ix 20 30 (gR M1 804 a19) p0 M1 fun a20 j21 =>
        some (some (pI (aI M1 a20 j21)), M1)
    else
      some (some (pI (-1)), M1) := (rn_un PP [62] 213 33 0 _ [] M).trans rfl
set_option maxRecDepth 100000 in
set_option maxHeartbeats 4000000 in
theorem tX12_keep_62 (l0 : Option Nat) (l1 : Int32) (l2 : Int32) (M : Mem) : rn PP 213 62 [some (pR l0), some (pI l1), some (pI l2), none, none, none, none, none] [] M =
    if l2 ≤ 0 then
      rd l0 12 M fun a1 =>
      ix 20 30 (gR M 804 a1) l1 M fun a2 j3 =>
      some (some (pI (aI M a2 j3)), M)
    else
      rd l0 12 M fun a4 =>
      ix 20 30 (gR M 825 a4) (l2 - 1) M fun a5 j6 =>
      rd l0 12 M fun a7 =>
      ix 20 30 (gR M 826 a7) (l2 - 1) M fun a8 j9 =>
      rd l0 12 M fun a10 =>
      ix 20 30 (gR M 802 a10) (aI M a5 j6) M fun a11 j12 =>
      rd l0 12 M fun a13 =>
      ix 20 30 (gR M 774 a13) (aI M a11 j12) M fun a14 j15 =>
      if ¬ aI M a8 j9 = aI M a14 j15 then
        rd l0 12 M fun a16 =>
        ix 20 30 (gR M 826 a16) (l2 - 1) M fun a17 j18 =>
        ix 20 20 (gR M 826 a16) (l2 - 1) M fun a19 j20 =>
        bd (wI M a19 j20 (aI M a17 j18 + 1)) fun M21 =>
        rd l0 12 M21 fun a22 =>
        ix 21 21 (gR M21 803 a22) ((6 * aI M a5 j6) + aI M a8 j9) M21 fun a23 j24 =>
        rd l0 12 M21 fun a25 =>
        ix 20 30 (gR M21 776 a25) ((6 * aI M a11 j12) + aI M a8 j9) M21 fun a26 j27 =>
        if ¬ aI M21 a26 j27 = 11 then
          rn PP 213 62 [some (pR l0), some (pI l1), some (pI l2), none, none, none, none, none] [] M21
        else
          if lg_cmp (aJ M21 a23 j24) (0 : Int64) < 0 then
            rn PP 213 62 [some (pR l0), some (pI l1), some (pI l2), none, none, none, none, none] [] M21
          else
            rd l0 12 M21 fun a28 =>
            ix 20 30 (gR M21 804 a28) ((aJ M21 a23 j24).toInt32) M21 fun a29 j30 =>
            if ¬ aI M21 a29 j30 = (-1) then
              rn PP 213 62 [some (pR l0), some (pI l1), some (pI l2), none, none, none, none, none] [] M21
            else
              rd l0 12 M21 fun a31 =>
              ix 20 20 (gR M21 825 a31) l2 M21 fun a32 j33 =>
              bd (wI M21 a32 j33 ((aJ M21 a23 j24).toInt32)) fun M34 =>
              rd l0 12 M34 fun a35 =>
              ix 20 20 (gR M34 826 a35) l2 M34 fun a36 j37 =>
              bd (wI M34 a36 j37 0) fun M38 =>
              rn PP 213 62 [some (pR l0), some (pI l1), some (pI (l2 + 1)), none, none, none, none, none] [] M38
      else
        rd l0 12 M fun a40 =>
        clV (ex 214 6 [pR (some a40), pI (aI M a5 j6)] M) fun M39 =>
        rn PP 213 62 [some (pR l0), some (pI l1), some (pI (l2 + (-1))), none, none, none, none, none] [] M39 := (rn_un PP [62] 213 82 62 _ _ M).trans rfl
set_option maxRecDepth 100000 in
set_option maxHeartbeats 4000000 in
theorem tX12_write (r0 : Option Nat) (p0 : Int32) (M : Mem) : ex 214 6 [pR r0, pI p0] M =
    rd r0 12 M fun a1 =>
    ix 20 30 (gR M 802 a1) p0 M fun a2 j3 =>
    rd r0 12 M fun a4 =>
    rd r0 12 M fun a5 =>
    ix 20 20 (gR M 804 a4) p0 M fun a6 j7 =>
    bd (wI M a6 j7 (gI M 813 a5)) fun M8 =>
    rd r0 12 M8 fun a9 =>
    rd r0 12 M8 fun a10 =>
    ix 20 20 (gR M8 814 a9) (gI M8 813 a10) M8 fun a11 j12 =>
    bd (wI M8 a11 j12 (aI M a2 j3)) fun M13 =>
    rd r0 12 M13 fun a14 =>
    rd r0 12 M13 fun a15 =>
    rd r0 12 M13 fun a16 =>
    ix 20 20 (gR M13 815 a14) (gI M13 813 a15) M13 fun a17 j18 =>
    bd (wI M13 a17 j18 (gI M13 790 a16)) fun M19 =>
    rd r0 12 M19 fun a20 =>
    rd r0 12 M19 fun a21 =>
    rd r0 12 M19 fun a22 =>
    ix 20 30 (gR M19 774 a22) (aI M a2 j3) M19 fun a23 j24 =>
    ix 20 20 (gR M19 816 a20) (gI M19 813 a21) M19 fun a25 j26 =>
    bd (wI M19 a25 j26 (aI M19 a23 j24)) fun M27 =>
    rd r0 12 M27 fun a28 =>
    rd r0 12 M27 fun a29 =>
    ix 20 20 (gR M27 823 a28) (gI M27 813 a29) M27 fun a30 j31 =>
    bd (wI M27 a30 j31 (-1)) fun M32 =>
    rn PP 214 67 [some (pR r0), some (pI p0), some (pI (aI M a2 j3)), some (pI 0), none, none] [] M32 := (rn_un PP [67] 214 43 0 _ [] M).trans rfl
set_option maxRecDepth 100000 in
set_option maxHeartbeats 4000000 in
theorem tX12_write_67 (l0 : Option Nat) (l1 : Int32) (l2 : Int32) (l3 : Int32) (M : Mem) : rn PP 214 67 [some (pR l0), some (pI l1), some (pI l2), some (pI l3), none, none] [] M =
    rd l0 12 M fun a1 =>
    ix 20 30 (gR M 774 a1) l2 M fun a2 j3 =>
    if aI M a2 j3 ≤ l3 then
      rd l0 12 M fun a4 =>
      rd l0 12 M fun a5 =>
      bd (sI M 813 a5 (gI M 813 a4 + 1)) fun M6 =>
      some (none, M6)
    else
      rd l0 12 M fun a7 =>
      rd l0 12 M fun a8 =>
      rd l0 12 M fun a9 =>
      ix 21 21 (gR M 775 a9) ((6 * l2) + l3) M fun a10 j11 =>
      ix 21 21 (gR M 817 a8) ((6 * gI M 813 a7) + l3) M fun a12 j13 =>
      bd (wJ M a12 j13 (aJ M a10 j11)) fun M14 =>
      rd l0 12 M14 fun a15 =>
      rd l0 12 M14 fun a16 =>
      ix 20 30 (gR M14 776 a16) ((6 * l2) + l3) M14 fun a17 j18 =>
      ix 20 20 (gR M14 818 a15) ((6 * gI M 813 a7) + l3) M14 fun a19 j20 =>
      bd (wI M14 a19 j20 (aI M14 a17 j18)) fun M21 =>
      rd l0 12 M21 fun a22 =>
      rd l0 12 M21 fun a23 =>
      ix 20 30 (gR M21 777 a23) ((6 * l2) + l3) M21 fun a24 j25 =>
      ix 20 20 (gR M21 819 a22) ((6 * gI M 813 a7) + l3) M21 fun a26 j27 =>
      bd (wI M21 a26 j27 (aI M21 a24 j25)) fun M28 =>
      rd l0 12 M28 fun a29 =>
      ix 20 20 (gR M28 824 a29) ((6 * gI M 813 a7) + l3) M28 fun a30 j31 =>
      bd (wI M28 a30 j31 (-1)) fun M32 =>
      rd l0 12 M32 fun a33 =>
      ix 20 30 (gR M32 776 a33) ((6 * l2) + l3) M32 fun a34 j35 =>
      rd l0 12 M32 fun a36 =>
      ix 20 30 (gR M32 777 a36) ((6 * l2) + l3) M32 fun a37 j38 =>
      rd l0 12 M32 fun a39 =>
      ix 21 21 (gR M32 803 a39) ((6 * l1) + l3) M32 fun a40 j41 =>
      rd l0 12 M32 fun a43 =>
      clV (ex 215 7 [pR (some a43), pI ((6 * gI M 813 a7) + l3), pI (aI M32 a34 j35), pI (aI M32 a37 j38), pJ (aJ M32 a40 j41)] M32) fun M42 =>
      rn PP 214 67 [some (pR l0), some (pI l1), some (pI l2), some (pI (l3 + 1)), none, none] [] M42 := (rn_un PP [67] 214 71 67 _ _ M).trans rfl
set_option maxRecDepth 100000 in
set_option maxHeartbeats 4000000 in
theorem tX12_writeValue (r0 : Option Nat) (p0 : Int32) (p1 : Int32) (p2 : Int32) (p3 : Int64) (M : Mem) : ex 215 7 [pR r0, pI p0, pI p1, pI p2, pJ p3] M =
    rd r0 12 M fun a1 =>
    if ¬ p1 = 11 then
      ix 21 21 (gR M 820 a1) p0 M fun a2 j3 =>
      bd (wJ M a2 j3 p3) fun M4 =>
      rd r0 12 M4 fun a5 =>
      ix 20 20 (gR M4 822 a5) p0 M4 fun a6 j7 =>
      bd (wI M4 a6 j7 0) fun M8 =>
      if ¬ p1 = 8 then
        rn PP 215 85 [some (pR r0), some (pI p0), some (pI p1), some (pI p2), some (pJ p3), none, some (pI 0)] [] M8
      else
        if lg_cmp p3 (0 : Int64) < 0 then
          rn PP 215 85 [some (pR r0), some (pI p0), some (pI p1), some (pI p2), some (pJ p3), none, some (pI 0)] [] M8
        else
          rd r0 12 M8 fun a9 =>
          rd r0 12 M8 fun a10 =>
          ix 21 21 (gR M8 770 a10) ((8 * p2) + p3.toInt32) M8 fun a11 j12 =>
          ix 21 21 (gR M8 821 a9) (16 * p0) M8 fun a13 j14 =>
          bd (wJ M8 a13 j14 (aJ M8 a11 j12)) fun M15 =>
          rd r0 12 M15 fun a16 =>
          ix 20 20 (gR M15 822 a16) p0 M15 fun a17 j18 =>
          bd (wI M15 a17 j18 1) fun M19 =>
          rn PP 215 85 [some (pR r0), some (pI p0), some (pI p1), some (pI p2), some (pJ p3), none, some (pI 0)] [] M19
    else
      if lg_cmp p3 (0 : Int64) < 0 then
        ix 21 21 (gR M 820 a1) p0 M fun a20 j21 =>
        bd (wJ M a20 j21 p3) fun M22 =>
        rd r0 12 M22 fun a23 =>
        ix 20 20 (gR M22 822 a23) p0 M22 fun a24 j25 =>
        bd (wI M22 a24 j25 0) fun M26 =>
        if ¬ p1 = 8 then
          rn PP 215 85 [some (pR r0), some (pI p0), some (pI p1), some (pI p2), some (pJ p3), none, some (pI 0)] [] M26
        else
          if lg_cmp p3 (0 : Int64) < 0 then
            rn PP 215 85 [some (pR r0), some (pI p0), some (pI p1), some (pI p2), some (pJ p3), none, some (pI 0)] [] M26
          else
            rd r0 12 M26 fun a27 =>
            rd r0 12 M26 fun a28 =>
            ix 21 21 (gR M26 770 a28) ((8 * p2) + p3.toInt32) M26 fun a29 j30 =>
            ix 21 21 (gR M26 821 a27) (16 * p0) M26 fun a31 j32 =>
            bd (wJ M26 a31 j32 (aJ M26 a29 j30)) fun M33 =>
            rd r0 12 M33 fun a34 =>
            ix 20 20 (gR M33 822 a34) p0 M33 fun a35 j36 =>
            bd (wI M33 a35 j36 1) fun M37 =>
            rn PP 215 85 [some (pR r0), some (pI p0), some (pI p1), some (pI p2), some (pJ p3), none, some (pI 0)] [] M37
      else
        rd r0 12 M fun a38 =>
        ix 20 30 (gR M 804 a38) p3.toInt32 M fun a39 j40 =>
        ix 21 21 (gR M 820 a1) p0 M fun a41 j42 =>
        bd (wJ M a41 j42 ((aI M a39 j40).toInt64)) fun M43 =>
        rd r0 12 M43 fun a44 =>
        ix 20 20 (gR M43 822 a44) p0 M43 fun a45 j46 =>
        bd (wI M43 a45 j46 0) fun M47 =>
        if ¬ p1 = 8 then
          rn PP 215 85 [some (pR r0), some (pI p0), some (pI p1), some (pI p2), some (pJ p3), none, some (pI 0)] [] M47
        else
          if lg_cmp p3 (0 : Int64) < 0 then
            rn PP 215 85 [some (pR r0), some (pI p0), some (pI p1), some (pI p2), some (pJ p3), none, some (pI 0)] [] M47
          else
            rd r0 12 M47 fun a48 =>
            rd r0 12 M47 fun a49 =>
            ix 21 21 (gR M47 770 a49) ((8 * p2) + p3.toInt32) M47 fun a50 j51 =>
            ix 21 21 (gR M47 821 a48) (16 * p0) M47 fun a52 j53 =>
            bd (wJ M47 a52 j53 (aJ M47 a50 j51)) fun M54 =>
            rd r0 12 M54 fun a55 =>
            ix 20 20 (gR M54 822 a55) p0 M54 fun a56 j57 =>
            bd (wI M54 a56 j57 1) fun M58 =>
            rn PP 215 85 [some (pR r0), some (pI p0), some (pI p1), some (pI p2), some (pJ p3), none, some (pI 0)] [] M58 := (rn_un PP [85, 188] 215 54 0 _ [] M).trans rfl
set_option maxRecDepth 100000 in
set_option maxHeartbeats 4000000 in
theorem tX12_writeValue_85 (l0 : Option Nat) (l1 : Int32) (l2 : Int32) (l3 : Int32) (l4 : Int64) (l6 : Int32) (M : Mem) : rn PP 215 85 [some (pR l0), some (pI l1), some (pI l2), some (pI l3), some (pJ l4), none, some (pI l6)] [] M =
    if ¬ l2 = 9 then
      if ¬ l2 = 10 then
        some (none, M)
      else
        if lg_cmp l4 (0 : Int64) < 0 then
          some (none, M)
        else
          rd l0 12 M fun a1 =>
          rd l0 12 M fun a2 =>
          ix 20 30 (gR M 800 a2) l4.toInt32 M fun a3 j4 =>
          ix 20 20 (gR M 822 a1) l1 M fun a5 j6 =>
          bd (wI M a5 j6 (aI M a3 j4)) fun M7 =>
          rn PP 215 188 [some (pR l0), some (pI l1), none, none, some (pJ l4), none, some (pI 0)] [] M7
    else
      rd l0 12 M fun a8 =>
      ix 20 30 (gR M 769 a8) l3 M fun a9 j10 =>
      if aI M a9 j10 ≤ l6 then
        if ¬ l2 = 10 then
          some (none, M)
        else
          if lg_cmp l4 (0 : Int64) < 0 then
            some (none, M)
          else
            rd l0 12 M fun a11 =>
            rd l0 12 M fun a12 =>
            ix 20 30 (gR M 800 a12) l4.toInt32 M fun a13 j14 =>
            ix 20 20 (gR M 822 a11) l1 M fun a15 j16 =>
            bd (wI M a15 j16 (aI M a13 j14)) fun M17 =>
            rn PP 215 188 [some (pR l0), some (pI l1), none, none, some (pJ l4), none, some (pI 0)] [] M17
      else
        if ¬ lg_cmp ((l4 >>> (l6.toInt64 &&& 63)) &&& (1 : Int64)) (1 : Int64) = 0 then
          rn PP 215 85 [some (pR l0), some (pI l1), some (pI l2), some (pI l3), some (pJ l4), none, some (pI (l6 + 1))] [] M
        else
          rd l0 12 M fun a18 =>
          rd l0 12 M fun a19 =>
          ix 20 30 (gR M 822 a19) l1 M fun a20 j21 =>
          rd l0 12 M fun a22 =>
          ix 21 21 (gR M 770 a22) ((8 * l3) + l6) M fun a23 j24 =>
          ix 21 21 (gR M 821 a18) ((16 * l1) + aI M a20 j21) M fun a25 j26 =>
          bd (wJ M a25 j26 (aJ M a23 j24)) fun M27 =>
          rd l0 12 M27 fun a28 =>
          ix 20 30 (gR M27 822 a28) l1 M27 fun a29 j30 =>
          ix 20 20 (gR M27 822 a28) l1 M27 fun a31 j32 =>
          bd (wI M27 a31 j32 (aI M27 a29 j30 + 1)) fun M33 =>
          rn PP 215 85 [some (pR l0), some (pI l1), some (pI l2), some (pI l3), some (pJ l4), none, some (pI (l6 + 1))] [] M33 := (rn_un PP [85, 188] 215 48 85 _ _ M).trans rfl
set_option maxRecDepth 100000 in
set_option maxHeartbeats 4000000 in
theorem tX12_writeValue_188 (l0 : Option Nat) (l1 : Int32) (l4 : Int64) (l6 : Int32) (M : Mem) : rn PP 215 188 [some (pR l0), some (pI l1), none, none, some (pJ l4), none, some (pI l6)] [] M =
    rd l0 12 M fun a1 =>
    ix 20 30 (gR M 822 a1) l1 M fun a2 j3 =>
    if aI M a2 j3 ≤ l6 then
      some (none, M)
    else
      rd l0 12 M fun a4 =>
      rd l0 12 M fun a5 =>
      ix 21 21 (gR M 801 a5) ((16 * l4.toInt32) + l6) M fun a6 j7 =>
      ix 21 21 (gR M 821 a4) ((16 * l1) + l6) M fun a8 j9 =>
      bd (wJ M a8 j9 (aJ M a6 j7)) fun M10 =>
      rn PP 215 188 [some (pR l0), some (pI l1), none, none, some (pJ l4), none, some (pI (l6 + 1))] [] M10 := (rn_un PP [85, 188] 215 27 188 _ _ M).trans rfl
set_option maxRecDepth 100000 in
set_option maxHeartbeats 4000000 in
theorem tX12_goes (p0 : Int32) (p1 : Int32) (M : Mem) : ex 216 2 [pI p0, pI p1] M =
    if p0 = Int32.ofInt (1) then
      if p1 = 1 then
        zo 1 (some (some (pI 1), M))
      else
        if p1 = 2 then
          zo 1 (some (some (pI 1), M))
        else
          clI (ex 157 6 [pJ p1.toInt64, pJ (4 : Int64), pJ (7 : Int64)] M) fun r2 M1 =>
          if r2 = 0 then
            zo 0 (some (some (pI 0), M1))
          else
            zo 1 (some (some (pI 1), M1))
    else if p0 = Int32.ofInt (2) then
      if p1 = 2 then
        zo 1 (some (some (pI 1), M))
      else
        clI (ex 157 6 [pJ p1.toInt64, pJ (4 : Int64), pJ (7 : Int64)] M) fun r4 M3 =>
        if r4 = 0 then
          zo 0 (some (some (pI 0), M3))
        else
          zo 1 (some (some (pI 1), M3))
    else if p0 = Int32.ofInt (3) then
      clI (ex 157 6 [pJ p1.toInt64, pJ (3 : Int64), pJ (7 : Int64)] M) fun r6 M5 =>
      zo r6 (some (some (pI r6), M5))
    else if p0 = Int32.ofInt (4) then
      clI (ex 157 6 [pJ p1.toInt64, pJ (4 : Int64), pJ (7 : Int64)] M) fun r8 M7 =>
      zo r8 (some (some (pI r8), M7))
    else if p0 = Int32.ofInt (5) then
      clI (ex 157 6 [pJ p1.toInt64, pJ (5 : Int64), pJ (7 : Int64)] M) fun r10 M9 =>
      zo r10 (some (some (pI r10), M9))
    else if p0 = Int32.ofInt (6) then
      clI (ex 157 6 [pJ p1.toInt64, pJ (6 : Int64), pJ (7 : Int64)] M) fun r12 M11 =>
      zo r12 (some (some (pI r12), M11))
    else 
      if ¬ p0 = p1 then
        zo 0 (some (some (pI 0), M))
      else
        zo 1 (some (some (pI 1), M)) := (rn_un PP [] 216 18 0 _ [] M).trans rfl
set_option maxRecDepth 100000 in
set_option maxHeartbeats 4000000 in
theorem tX12_widened (p0 : Int32) (p1 : Int32) (p2 : Int64) (M : Mem) : ex 217 4 [pI p0, pI p1, pJ p2] M =
    if p0 = p1 then
      some (some (pJ p2), M)
    else
      if 6 ≤ p1 then
        if ¬ p0 = 6 then
          if ¬ p1 = 6 then
            clJ (ex 1 2 [pD (FP.l2d p2)] M) fun r2 M1 =>
            some (some (pJ r2), M1)
          else
            clI (ex 3 1 [pF (FP.l2f p2)] M) fun r4 M3 =>
            some (some (pJ r4.toInt64), M3)
        else
          if ¬ lg_cmp p2 (2143289344 : Int64) = 0 then
            gd (vn_sni2f p2.toInt32 = false)
            (gd (FP.f2d p2.toInt32.toUInt32 &&& 0x7fffffffffffffff ≤ 0x7ff0000000000000)
            (clJ (ex 1 2 [pD (FP.f2d p2.toInt32.toUInt32)] M) fun r6 M5 =>
            some (some (pJ r6), M5)))
          else
            some (some (pJ (9221120237041090560 : Int64)), M)
      else
        some (some (pJ p2), M) := (rn_un PP [] 217 20 0 _ [] M).trans rfl
set_option maxRecDepth 100000 in
set_option maxHeartbeats 4000000 in
theorem tX12_keptPart (r0 : Option Nat) (p0 : Int32) (p1 : Int64) (M : Mem) : ex 218 5 [pR r0, pI p0, pJ p1] M =
    rn PP 218 3 [some (pR r0), some (pI p0), some (pJ p1), none, some (pI 0)] [] M := (rn_un PP [3] 218 4 0 _ [] M).trans rfl
set_option maxRecDepth 100000 in
set_option maxHeartbeats 4000000 in
theorem tX12_keptPart_3 (l0 : Option Nat) (l1 : Int32) (l2 : Int64) (l4 : Int32) (M : Mem) : rn PP 218 3 [some (pR l0), some (pI l1), some (pJ l2), none, some (pI l4)] [] M =
    rd l0 12 M fun a1 =>
    ix 20 30 (gR M 816 a1) l1 M fun a2 j3 =>
    if aI M a2 j3 ≤ l4 then
      some (some (pI (-1)), M)
    else
      rd l0 12 M fun a4 =>
      ix 21 21 (gR M 817 a4) ((6 * l1) + l4) M fun a5 j6 =>
      if ¬ lg_cmp (aJ M a5 j6) l2 = 0 then
        rn PP 218 3 [some (pR l0), some (pI l1), some (pJ l2), none, some (pI (l4 + 1))] [] M
      else
        some (some (pI ((6 * l1) + l4)), M) := (rn_un PP [3] 218 24 3 _ _ M).trans rfl
set_option maxRecDepth 100000 in
set_option maxHeartbeats 4000000 in
theorem tX12_brings (r0 : Option Nat) (p0 : Int32) (p1 : Int32) (M : Mem) : ex 219 10 [pR r0, pI p0, pI p1] M =
    rd r0 12 M fun a1 =>
    ix 20 30 (gR M 776 a1) p0 M fun a2 j3 =>
    rd r0 12 M fun a4 =>
    ix 20 30 (gR M 818 a4) p1 M fun a5 j6 =>
    rd r0 12 M fun a7 =>
    ix 21 21 (gR M 820 a7) p1 M fun a8 j9 =>
    if aI M a5 j6 < 8 then
      rn PP 219 36 [some (pR r0), none, none, some (pI (aI M a2 j3)), some (pI (aI M a5 j6)), some (pJ (aJ M a8 j9)), none, none, none, none] [] M
    else
      if 8 ≤ aI M a2 j3 then
        if aI M a5 j6 = aI M a2 j3 then
          rn PP 219 117 [some (pR r0), some (pI p0), some (pI p1), some (pI (aI M a2 j3)), some (pI (aI M a5 j6)), some (pJ (aJ M a8 j9)), none, none, none, none] [] M
        else
          if ¬ aI M a5 j6 = 8 then
            rn PP 219 121 [some (pR r0), some (pI p0), some (pI p1), some (pI (aI M a2 j3)), some (pI (aI M a5 j6)), some (pJ (aJ M a8 j9)), none, none, none, none] [] M
          else
            if ¬ aI M a2 j3 = 9 then
              rn PP 219 121 [some (pR r0), some (pI p0), some (pI p1), some (pI (aI M a2 j3)), some (pI (aI M a5 j6)), some (pJ (aJ M a8 j9)), none, none, none, none] [] M
            else
              rn PP 219 117 [some (pR r0), some (pI p0), some (pI p1), some (pI (aI M a2 j3)), some (pI (aI M a5 j6)), some (pJ (aJ M a8 j9)), none, none, none, none] [] M
      else
        rn PP 219 36 [some (pR r0), none, none, some (pI (aI M a2 j3)), some (pI (aI M a5 j6)), some (pJ (aJ M a8 j9)), none, none, none, none] [] M := (rn_un PP [36, 62, 63, 83, 97, 117, 121, 122, 151, 154, 191, 210, 211, 233, 234, 265, 284, 285, 304, 316] 219 32 0 _ [] M).trans rfl
set_option maxRecDepth 100000 in
set_option maxHeartbeats 4000000 in
theorem tX12_brings_36 (l0 : Option Nat) (l3 : Int32) (l4 : Int32) (l5 : Int64) (M : Mem) : rn PP 219 36 [some (pR l0), none, none, some (pI l3), some (pI l4), some (pJ l5), none, none, none, none] [] M =
    if 8 ≤ l4 then
      rn PP 219 62 [some (pR l0), none, none, some (pI l3), some (pI l4), some (pJ l5), none, none, none, none] [] M
    else
      if 8 ≤ l3 then
        rn PP 219 62 [some (pR l0), none, none, some (pI l3), some (pI l4), some (pJ l5), none, none, none, none] [] M
      else
        clI (ex 216 2 [pI l4, pI l3] M) fun r2 M1 =>
        if r2 = 0 then
          rn PP 219 62 [some (pR l0), none, none, some (pI l3), some (pI l4), some (pJ l5), none, none, none, none] [] M1
        else
          rn PP 219 63 [some (pR l0), none, none, some (pI l3), some (pI l4), some (pJ l5), none, none, none, none] [pI 1] M1 := (rn_un PP [36, 62, 63, 83, 97, 117, 121, 122, 151, 154, 191, 210, 211, 233, 234, 265, 284, 285, 304, 316] 219 14 36 _ _ M).trans rfl
set_option maxRecDepth 100000 in
set_option maxHeartbeats 4000000 in
theorem tX12_brings_62 (l0 : Option Nat) (l3 : Int32) (l4 : Int32) (l5 : Int64) (M : Mem) : rn PP 219 62 [some (pR l0), none, none, some (pI l3), some (pI l4), some (pJ l5), none, none, none, none] [] M =
    rn PP 219 63 [some (pR l0), none, none, some (pI l3), some (pI l4), some (pJ l5), none, none, none, none] [pI 0] M := (rn_un PP [36, 62, 63, 83, 97, 117, 121, 122, 151, 154, 191, 210, 211, 233, 234, 265, 284, 285, 304, 316] 219 3 62 _ _ M).trans rfl
set_option maxRecDepth 100000 in
set_option maxHeartbeats 4000000 in
theorem tX12_brings_63 (l0 : Option Nat) (l3 : Int32) (l4 : Int32) (l5 : Int64) (s0 : Int32) (M : Mem) : rn PP 219 63 [some (pR l0), none, none, some (pI l3), some (pI l4), some (pJ l5), none, none, none, none] [pI s0] M =
    if s0 = 0 then
      rn PP 219 83 [none, none, none, none, none, none, none, some (pI s0), none, none] [pJ (0 : Int64), pR l0] M
    else
      clJ (ex 217 4 [pI l4, pI l3, pJ l5] M) fun r2 M1 =>
      rn PP 219 83 [none, none, none, none, none, none, none, some (pI s0), none, none] [pJ r2, pR l0] M1 := (rn_un PP [36, 62, 63, 83, 97, 117, 121, 122, 151, 154, 191, 210, 211, 233, 234, 265, 284, 285, 304, 316] 219 11 63 _ _ M).trans rfl
set_option maxRecDepth 100000 in
set_option maxHeartbeats 4000000 in
theorem tX12_brings_83 (l7 : Int32) (s0 : Int64) (s1 : Option Nat) (M : Mem) : rn PP 219 83 [none, none, none, none, none, none, none, some (pI l7), none, none] [pJ s0, pR s1] M =
    rd s1 12 M fun a1 =>
    bd (sJ M 830 a1 s0) fun M2 =>
    if l7 = 0 then
      rn PP 219 97 [none, none, none, none, none, none, none, none, none, none] [pI 6] M2
    else
      rn PP 219 97 [none, none, none, none, none, none, none, none, none, none] [pI 0] M2 := (rn_un PP [36, 62, 63, 83, 97, 117, 121, 122, 151, 154, 191, 210, 211, 233, 234, 265, 284, 285, 304, 316] 219 7 83 _ _ M).trans rfl
set_option maxRecDepth 100000 in
set_option maxHeartbeats 4000000 in
theorem tX12_brings_97 (s0 : Int32) (M : Mem) : rn PP 219 97 [none, none, none, none, none, none, none, none, none, none] [pI s0] M =
    some (some (pI s0), M) := (rn_un PP [36, 62, 63, 83, 97, 117, 121, 122, 151, 154, 191, 210, 211, 233, 234, 265, 284, 285, 304, 316] 219 2 97 _ _ M).trans rfl
set_option maxRecDepth 100000 in
set_option maxHeartbeats 4000000 in
theorem tX12_brings_117 (l0 : Option Nat) (l1 : Int32) (l2 : Int32) (l3 : Int32) (l4 : Int32) (l5 : Int64) (M : Mem) : rn PP 219 117 [some (pR l0), some (pI l1), some (pI l2), some (pI l3), some (pI l4), some (pJ l5), none, none, none, none] [] M =
    rn PP 219 122 [some (pR l0), some (pI l1), some (pI l2), some (pI l3), some (pI l4), some (pJ l5), none, none, none, none] [pI 1] M := (rn_un PP [36, 62, 63, 83, 97, 117, 121, 122, 151, 154, 191, 210, 211, 233, 234, 265, 284, 285, 304, 316] 219 4 117 _ _ M).trans rfl
set_option maxRecDepth 100000 in
set_option maxHeartbeats 4000000 in
theorem tX12_brings_121 (l0 : Option Nat) (l1 : Int32) (l2 : Int32) (l3 : Int32) (l4 : Int32) (l5 : Int64) (M : Mem) : rn PP 219 121 [some (pR l0), some (pI l1), some (pI l2), some (pI l3), some (pI l4), some (pJ l5), none, none, none, none] [] M =
    rn PP 219 122 [some (pR l0), some (pI l1), some (pI l2), some (pI l3), some (pI l4), some (pJ l5), none, none, none, none] [pI 0] M := (rn_un PP [36, 62, 63, 83, 97, 117, 121, 122, 151, 154, 191, 210, 211, 233, 234, 265, 284, 285, 304, 316] 219 3 121 _ _ M).trans rfl
set_option maxRecDepth 100000 in
set_option maxHeartbeats 4000000 in
theorem tX12_brings_122 (l0 : Option Nat) (l1 : Int32) (l2 : Int32) (l3 : Int32) (l4 : Int32) (l5 : Int64) (s0 : Int32) (M : Mem) : rn PP 219 122 [some (pR l0), some (pI l1), some (pI l2), some (pI l3), some (pI l4), some (pJ l5), none, none, none, none] [pI s0] M =
    if s0 = 0 then
      rn PP 219 151 [none, none, none, none, none, none, none, none, none, none] [] M
    else
      if l4 = 11 then
        rn PP 219 154 [some (pR l0), some (pI l1), some (pI l2), some (pI l3), some (pI l4), some (pJ l5), none, none, none, none] [] M
      else
        rd l0 12 M fun a1 =>
        ix 20 30 (gR M 819 a1) l2 M fun a2 j3 =>
        rd l0 12 M fun a4 =>
        ix 20 30 (gR M 777 a4) l1 M fun a5 j6 =>
        if aI M a2 j3 = aI M a5 j6 then
          rn PP 219 154 [some (pR l0), some (pI l1), some (pI l2), some (pI l3), some (pI l4), some (pJ l5), none, none, none, none] [] M
        else
          rn PP 219 151 [none, none, none, none, none, none, none, none, none, none] [] M := (rn_un PP [36, 62, 63, 83, 97, 117, 121, 122, 151, 154, 191, 210, 211, 233, 234, 265, 284, 285, 304, 316] 219 17 122 _ _ M).trans rfl
set_option maxRecDepth 100000 in
set_option maxHeartbeats 4000000 in
theorem tX12_brings_151 (M : Mem) : rn PP 219 151 [none, none, none, none, none, none, none, none, none, none] [] M =
    some (some (pI 6), M) := (rn_un PP [36, 62, 63, 83, 97, 117, 121, 122, 151, 154, 191, 210, 211, 233, 234, 265, 284, 285, 304, 316] 219 3 151 _ _ M).trans rfl
set_option maxRecDepth 100000 in
set_option maxHeartbeats 4000000 in
theorem tX12_brings_154 (l0 : Option Nat) (l1 : Int32) (l2 : Int32) (l3 : Int32) (l4 : Int32) (l5 : Int64) (M : Mem) : rn PP 219 154 [some (pR l0), some (pI l1), some (pI l2), some (pI l3), some (pI l4), some (pJ l5), none, none, none, none] [] M =
    if ¬ l4 = 8 then
      if ¬ l4 = 9 then
        rn PP 219 304 [some (pR l0), none, some (pI l2), none, some (pI l4), none, none, none, none, none] [] M
      else
        rd l0 12 M fun a1 =>
        ix 20 30 (gR M 777 a1) l1 M fun a2 j3 =>
        rd l0 12 M fun a5 =>
        clV (ex 220 5 [pR (some a5), pI (aI M a2 j3), pI l2] M) fun M4 =>
        rn PP 219 304 [some (pR l0), none, some (pI l2), none, some (pI l4), none, none, none, none, none] [] M4
    else
      if 0 ≤ lg_cmp l5 (0 : Int64) then
        rd l0 12 M fun a6 =>
        ix 20 30 (gR M 777 a6) l1 M fun a7 j8 =>
        rd l0 12 M fun a9 =>
        ix 21 21 (gR M 821 a9) (16 * l2) M fun a10 j11 =>
        rd l0 12 M fun a13 =>
        clI (ex 165 5 [pR (some a13), pI (aI M a7 j8), pJ (aJ M a10 j11)] M) fun r14 M12 =>
        rn PP 219 191 [some (pR l0), none, none, some (pI l3), none, some (pJ l5), none, none, none, none] [pI r14] M12
      else
        rn PP 219 191 [some (pR l0), none, none, some (pI l3), none, some (pJ l5), none, none, none, none] [pI (-1)] M := (rn_un PP [36, 62, 63, 83, 97, 117, 121, 122, 151, 154, 191, 210, 211, 233, 234, 265, 284, 285, 304, 316] 219 21 154 _ _ M).trans rfl
set_option maxRecDepth 100000 in
set_option maxHeartbeats 4000000 in
theorem tX12_brings_191 (l0 : Option Nat) (l3 : Int32) (l5 : Int64) (s0 : Int32) (M : Mem) : rn PP 219 191 [some (pR l0), none, none, some (pI l3), none, some (pJ l5), none, none, none, none] [pI s0] M =
    if lg_cmp l5 (0 : Int64) < 0 then
      rn PP 219 210 [some (pR l0), none, none, some (pI l3), none, none, none, none, some (pI s0), none] [] M
    else
      if ¬ s0 = (-1) then
        rn PP 219 210 [some (pR l0), none, none, some (pI l3), none, none, none, none, some (pI s0), none] [] M
      else
        rn PP 219 211 [some (pR l0), none, none, some (pI l3), none, none, none, none, some (pI s0), none] [pI 1] M := (rn_un PP [36, 62, 63, 83, 97, 117, 121, 122, 151, 154, 191, 210, 211, 233, 234, 265, 284, 285, 304, 316] 219 12 191 _ _ M).trans rfl
set_option maxRecDepth 100000 in
set_option maxHeartbeats 4000000 in
theorem tX12_brings_210 (l0 : Option Nat) (l3 : Int32) (l8 : Int32) (M : Mem) : rn PP 219 210 [some (pR l0), none, none, some (pI l3), none, none, none, none, some (pI l8), none] [] M =
    rn PP 219 211 [some (pR l0), none, none, some (pI l3), none, none, none, none, some (pI l8), none] [pI 0] M := (rn_un PP [36, 62, 63, 83, 97, 117, 121, 122, 151, 154, 191, 210, 211, 233, 234, 265, 284, 285, 304, 316] 219 3 210 _ _ M).trans rfl
set_option maxRecDepth 100000 in
set_option maxHeartbeats 4000000 in
theorem tX12_brings_211 (l0 : Option Nat) (l3 : Int32) (l8 : Int32) (s0 : Int32) (M : Mem) : rn PP 219 211 [some (pR l0), none, none, some (pI l3), none, none, none, none, some (pI l8), none] [pI s0] M =
    rd l0 12 M fun a1 =>
    if s0 = 0 then
      rn PP 219 233 [some (pR l0), none, none, some (pI l3), none, none, none, none, some (pI l8), some (pI s0)] [pI (gI M 828 a1), pR l0] M
    else
      if ¬ l3 = 9 then
        rn PP 219 233 [some (pR l0), none, none, some (pI l3), none, none, none, none, some (pI l8), some (pI s0)] [pI (gI M 828 a1), pR l0] M
      else
        rn PP 219 234 [some (pR l0), none, none, some (pI l3), none, none, none, none, some (pI l8), some (pI s0)] [pI 1, pI (gI M 828 a1), pR l0] M := (rn_un PP [36, 62, 63, 83, 97, 117, 121, 122, 151, 154, 191, 210, 211, 233, 234, 265, 284, 285, 304, 316] 219 13 211 _ _ M).trans rfl
set_option maxRecDepth 100000 in
set_option maxHeartbeats 4000000 in
theorem tX12_brings_233 (l0 : Option Nat) (l3 : Int32) (l8 : Int32) (l9 : Int32) (s0 : Int32) (s1 : Option Nat) (M : Mem) : rn PP 219 233 [some (pR l0), none, none, some (pI l3), none, none, none, none, some (pI l8), some (pI l9)] [pI s0, pR s1] M =
    rn PP 219 234 [some (pR l0), none, none, some (pI l3), none, none, none, none, some (pI l8), some (pI l9)] [pI 0, pI s0, pR s1] M := (rn_un PP [36, 62, 63, 83, 97, 117, 121, 122, 151, 154, 191, 210, 211, 233, 234, 265, 284, 285, 304, 316] 219 3 233 _ _ M).trans rfl
set_option maxRecDepth 100000 in
set_option maxHeartbeats 4000000 in
theorem tX12_brings_234 (l0 : Option Nat) (l3 : Int32) (l8 : Int32) (l9 : Int32) (s0 : Int32) (s1 : Int32) (s2 : Option Nat) (M : Mem) : rn PP 219 234 [some (pR l0), none, none, some (pI l3), none, none, none, none, some (pI l8), some (pI l9)] [pI s0, pI s1, pR s2] M =
    rd s2 12 M fun a1 =>
    bd (sI M 828 a1 (s1 + s0)) fun M2 =>
    if ¬ l3 = 8 then
      if ¬ l8 = (-1) then
        rn PP 219 265 [none, none, none, some (pI l3), none, none, none, none, none, some (pI l9)] [pJ ((1 : Int64) <<< (l8.toInt64 &&& 63)), pR l0] M2
      else
        rn PP 219 265 [none, none, none, some (pI l3), none, none, none, none, none, some (pI l9)] [pJ (0 : Int64), pR l0] M2
    else
      rn PP 219 265 [none, none, none, some (pI l3), none, none, none, none, none, some (pI l9)] [pJ l8.toInt64, pR l0] M2 := (rn_un PP [36, 62, 63, 83, 97, 117, 121, 122, 151, 154, 191, 210, 211, 233, 234, 265, 284, 285, 304, 316] 219 14 234 _ _ M).trans rfl
set_option maxRecDepth 100000 in
set_option maxHeartbeats 4000000 in
theorem tX12_brings_265 (l3 : Int32) (l9 : Int32) (s0 : Int64) (s1 : Option Nat) (M : Mem) : rn PP 219 265 [none, none, none, some (pI l3), none, none, none, none, none, some (pI l9)] [pJ s0, pR s1] M =
    rd s1 12 M fun a1 =>
    bd (sJ M 830 a1 s0) fun M2 =>
    if l9 = 0 then
      rn PP 219 284 [none, none, none, none, none, none, none, none, none, none] [] M2
    else
      if ¬ l3 = 8 then
        rn PP 219 284 [none, none, none, none, none, none, none, none, none, none] [] M2
      else
        rn PP 219 285 [none, none, none, none, none, none, none, none, none, none] [pI 8] M2 := (rn_un PP [36, 62, 63, 83, 97, 117, 121, 122, 151, 154, 191, 210, 211, 233, 234, 265, 284, 285, 304, 316] 219 10 265 _ _ M).trans rfl
set_option maxRecDepth 100000 in
set_option maxHeartbeats 4000000 in
theorem tX12_brings_284 (M : Mem) : rn PP 219 284 [none, none, none, none, none, none, none, none, none, none] [] M =
    rn PP 219 285 [none, none, none, none, none, none, none, none, none, none] [pI 0] M := (rn_un PP [36, 62, 63, 83, 97, 117, 121, 122, 151, 154, 191, 210, 211, 233, 234, 265, 284, 285, 304, 316] 219 3 284 _ _ M).trans rfl
set_option maxRecDepth 100000 in
set_option maxHeartbeats 4000000 in
theorem tX12_brings_285 (s0 : Int32) (M : Mem) : rn PP 219 285 [none, none, none, none, none, none, none, none, none, none] [pI s0] M =
    some (some (pI s0), M) := (rn_un PP [36, 62, 63, 83, 97, 117, 121, 122, 151, 154, 191, 210, 211, 233, 234, 265, 284, 285, 304, 316] 219 2 285 _ _ M).trans rfl
set_option maxRecDepth 100000 in
set_option maxHeartbeats 4000000 in
theorem tX12_brings_304 (l0 : Option Nat) (l2 : Int32) (l4 : Int32) (M : Mem) : rn PP 219 304 [some (pR l0), none, some (pI l2), none, some (pI l4), none, none, none, none, none] [] M =
    if ¬ l4 = 10 then
      rn PP 219 316 [none, none, none, none, none, none, none, none, none, none] [] M
    else
      rd l0 12 M fun a2 =>
      clV (ex 221 3 [pR (some a2), pI l2] M) fun M1 =>
      rn PP 219 316 [none, none, none, none, none, none, none, none, none, none] [] M1 := (rn_un PP [36, 62, 63, 83, 97, 117, 121, 122, 151, 154, 191, 210, 211, 233, 234, 265, 284, 285, 304, 316] 219 8 304 _ _ M).trans rfl
set_option maxRecDepth 100000 in
set_option maxHeartbeats 4000000 in
theorem tX12_brings_316 (M : Mem) : rn PP 219 316 [none, none, none, none, none, none, none, none, none, none] [] M =
    some (some (pI 0), M) := (rn_un PP [36, 62, 63, 83, 97, 117, 121, 122, 151, 154, 191, 210, 211, 233, 234, 265, 284, 285, 304, 316] 219 3 316 _ _ M).trans rfl
set_option maxRecDepth 100000 in
set_option maxHeartbeats 4000000 in
theorem tX12_bringSet (r0 : Option Nat) (p0 : Int32) (p1 : Int32) (M : Mem) : ex 220 5 [pR r0, pI p0, pI p1] M =
    rd r0 12 M fun a1 =>
    bd (sJ M 830 a1 (0 : Int64)) fun M2 =>
    rn PP 220 7 [some (pR r0), some (pI p0), some (pI p1), some (pI 0), none] [] M2 := (rn_un PP [7] 220 7 0 _ [] M).trans rfl
set_option maxRecDepth 100000 in
set_option maxHeartbeats 4000000 in
theorem tX12_bringSet_7 (l0 : Option Nat) (l1 : Int32) (l2 : Int32) (l3 : Int32) (M : Mem) : rn PP 220 7 [some (pR l0), some (pI l1), some (pI l2), some (pI l3), none] [] M =
    rd l0 12 M fun a1 =>
    ix 20 30 (gR M 822 a1) l2 M fun a2 j3 =>
    if aI M a2 j3 ≤ l3 then
      some (none, M)
    else
      rd l0 12 M fun a4 =>
      ix 21 21 (gR M 821 a4) ((16 * l2) + l3) M fun a5 j6 =>
      rd l0 12 M fun a8 =>
      clI (ex 165 5 [pR (some a8), pI l1, pJ (aJ M a5 j6)] M) fun r9 M7 =>
      rd l0 12 M7 fun a10 =>
      if ¬ r9 = (-1) then
        rd l0 12 M7 fun a11 =>
        bd (sI M7 828 a11 (gI M7 828 a10 + 0)) fun M12 =>
        rd l0 12 M12 fun a13 =>
        if ¬ r9 = (-1) then
          rd l0 12 M12 fun a14 =>
          bd (sJ M12 830 a14 (gJ M12 830 a13 ||| ((1 : Int64) <<< (r9.toInt64 &&& 63)))) fun M15 =>
          rn PP 220 7 [some (pR l0), some (pI l1), some (pI l2), some (pI (l3 + 1)), none] [] M15
        else
          rd l0 12 M12 fun a16 =>
          bd (sJ M12 830 a16 (gJ M12 830 a13 ||| (0 : Int64))) fun M17 =>
          rn PP 220 7 [some (pR l0), some (pI l1), some (pI l2), some (pI (l3 + 1)), none] [] M17
      else
        rd l0 12 M7 fun a18 =>
        bd (sI M7 828 a18 (gI M7 828 a10 + 1)) fun M19 =>
        rd l0 12 M19 fun a20 =>
        if ¬ r9 = (-1) then
          rd l0 12 M19 fun a21 =>
          bd (sJ M19 830 a21 (gJ M19 830 a20 ||| ((1 : Int64) <<< (r9.toInt64 &&& 63)))) fun M22 =>
          rn PP 220 7 [some (pR l0), some (pI l1), some (pI l2), some (pI (l3 + 1)), none] [] M22
        else
          rd l0 12 M19 fun a23 =>
          bd (sJ M19 830 a23 (gJ M19 830 a20 ||| (0 : Int64))) fun M24 =>
          rn PP 220 7 [some (pR l0), some (pI l1), some (pI l2), some (pI (l3 + 1)), none] [] M24 := (rn_un PP [7] 220 43 7 _ _ M).trans rfl
set_option maxRecDepth 100000 in
set_option maxHeartbeats 4000000 in
theorem tX12_bringRow (r0 : Option Nat) (p0 : Int32) (M : Mem) : ex 221 3 [pR r0, pI p0] M =
    rd r0 12 M fun a1 =>
    bd (sJ M 830 a1 (-1 : Int64)) fun M2 =>
    rd r0 12 M2 fun a3 =>
    ix 21 21 (gR M2 820 a3) p0 M2 fun a4 j5 =>
    if 0 ≤ lg_cmp (aJ M2 a4 j5) (0 : Int64) then
      rd r0 12 M2 fun a6 =>
      ix 20 30 (gR M2 824 a6) p0 M2 fun a7 j8 =>
      if ¬ aI M2 a7 j8 = (-1) then
        rd r0 12 M2 fun a9 =>
        ix 20 30 (gR M2 824 a9) p0 M2 fun a10 j11 =>
        rd r0 12 M2 fun a12 =>
        bd (sJ M2 830 a12 ((aI M2 a10 j11).toInt64)) fun M13 =>
        some (none, M13)
      else
        rd r0 12 M2 fun a14 =>
        rd r0 12 M2 fun a15 =>
        ix 20 30 (gR M2 819 a15) p0 M2 fun a16 j17 =>
        rd r0 12 M2 fun a18 =>
        ix 20 30 (gR M2 822 a18) p0 M2 fun a19 j20 =>
        rd r0 12 M2 fun a22 =>
        clI (ex 189 4 [pR (some a22), pI (aI M2 a16 j17), pI (aI M2 a19 j20)] M2) fun r23 M21 =>
        ix 20 20 (gR M2 824 a14) p0 M21 fun a24 j25 =>
        bd (wI M21 a24 j25 r23) fun M26 =>
        rn PP 221 53 [some (pR r0), some (pI p0), some (pI 0)] [] M26
    else
      some (none, M2) := (rn_un PP [53] 221 34 0 _ [] M).trans rfl
set_option maxRecDepth 100000 in
set_option maxHeartbeats 4000000 in
theorem tX12_bringRow_53 (l0 : Option Nat) (l1 : Int32) (l2 : Int32) (M : Mem) : rn PP 221 53 [some (pR l0), some (pI l1), some (pI l2)] [] M =
    rd l0 12 M fun a1 =>
    ix 20 30 (gR M 822 a1) l1 M fun a2 j3 =>
    if aI M a2 j3 ≤ l2 then
      rd l0 12 M fun a4 =>
      ix 20 30 (gR M 824 a4) l1 M fun a5 j6 =>
      rd l0 12 M fun a7 =>
      bd (sJ M 830 a7 ((aI M a5 j6).toInt64)) fun M8 =>
      some (none, M8)
    else
      rd l0 12 M fun a9 =>
      rd l0 12 M fun a10 =>
      ix 20 30 (gR M 824 a10) l1 M fun a11 j12 =>
      rd l0 12 M fun a13 =>
      ix 21 21 (gR M 821 a13) ((16 * l1) + l2) M fun a14 j15 =>
      ix 21 21 (gR M 801 a9) ((16 * aI M a11 j12) + l2) M fun a16 j17 =>
      bd (wJ M a16 j17 (aJ M a14 j15)) fun M18 =>
      rn PP 221 53 [some (pR l0), some (pI l1), some (pI (l2 + 1))] [] M18 := (rn_un PP [53] 221 29 53 _ _ M).trans rfl
set_option maxRecDepth 100000 in
set_option maxHeartbeats 4000000 in
theorem tX12_load (r0 : Option Nat) (p0 : Int32) (M : Mem) : ex 222 10 [pR r0, pI p0] M =
    rd r0 12 M fun a1 =>
    clI (ex 157 6 [pJ p0.toInt64, pJ (0 : Int64), pJ ((gI M 813 a1 - 1).toInt64)] M) fun r3 M2 =>
    if ¬ r3 = 0 then
      rd r0 12 M2 fun a4 =>
      ix 20 30 (gR M2 823 a4) p0 M2 fun a5 j6 =>
      if aI M2 a5 j6 = (-1) then
        rd r0 12 M2 fun a7 =>
        ix 20 20 (gR M2 825 a7) 0 M2 fun a8 j9 =>
        bd (wI M2 a8 j9 p0) fun M10 =>
        rd r0 12 M10 fun a11 =>
        ix 20 20 (gR M10 826 a11) 0 M10 fun a12 j13 =>
        bd (wI M10 a12 j13 0) fun M14 =>
        rn PP 222 53 [some (pR r0), some (pI p0), some (pI 1), some (pI 0), none, none, none, none, none, none] [] M14
      else
        rd r0 12 M2 fun a15 =>
        ix 20 30 (gR M2 823 a15) p0 M2 fun a16 j17 =>
        some (some (pI (aI M2 a16 j17)), M2)
    else
      some (some (pI (-1)), M2) := (rn_un PP [53, 105] 222 32 0 _ [] M).trans rfl
set_option maxRecDepth 100000 in
set_option maxHeartbeats 4000000 in
theorem tX12_load_53 (l0 : Option Nat) (l1 : Int32) (l2 : Int32) (l3 : Int32) (M : Mem) : rn PP 222 53 [some (pR l0), some (pI l1), some (pI l2), some (pI l3), none, none, none, none, none, none] [] M =
    if l2 ≤ 0 then
      if l3 = 0 then
        rd l0 12 M fun a1 =>
        ix 20 30 (gR M 823 a1) l1 M fun a2 j3 =>
        some (some (pI (aI M a2 j3)), M)
      else
        some (some (pI l3), M)
    else
      if ¬ l3 = 0 then
        if l3 = 0 then
          rd l0 12 M fun a4 =>
          ix 20 30 (gR M 823 a4) l1 M fun a5 j6 =>
          some (some (pI (aI M a5 j6)), M)
        else
          some (some (pI l3), M)
      else
        rd l0 12 M fun a7 =>
        ix 20 30 (gR M 825 a7) (l2 - 1) M fun a8 j9 =>
        rd l0 12 M fun a10 =>
        ix 20 30 (gR M 814 a10) (aI M a8 j9) M fun a11 j12 =>
        rd l0 12 M fun a13 =>
        ix 20 30 (gR M 826 a13) (l2 - 1) M fun a14 j15 =>
        rd l0 12 M fun a16 =>
        ix 20 30 (gR M 774 a16) (aI M a11 j12) M fun a17 j18 =>
        if ¬ aI M a14 j15 = aI M a17 j18 then
          rd l0 12 M fun a19 =>
          ix 21 21 (gR M 775 a19) ((6 * aI M a11 j12) + aI M a14 j15) M fun a20 j21 =>
          rd l0 12 M fun a23 =>
          clI (ex 218 5 [pR (some a23), pI (aI M a8 j9), pJ (aJ M a20 j21)] M) fun r24 M22 =>
          if r24 = (-1) then
            if (0 : Int32) = 0 then
              rd l0 12 M22 fun a26 =>
              clI (ex 223 4 [pR (some a26), pI ((6 * aI M a11 j12) + aI M a14 j15), pI r24] M22) fun r27 M25 =>
              if r27 = 0 then
                rd l0 12 M25 fun a28 =>
                rd l0 12 M25 fun a29 =>
                ix 21 21 (gR M25 829 a28) ((6 * (l2 - 1)) + aI M a14 j15) M25 fun a30 j31 =>
                bd (wJ M25 a30 j31 (gJ M25 830 a29)) fun M32 =>
                rd l0 12 M32 fun a33 =>
                ix 20 30 (gR M32 826 a33) (l2 - 1) M32 fun a34 j35 =>
                ix 20 20 (gR M32 826 a33) (l2 - 1) M32 fun a36 j37 =>
                bd (wI M32 a36 j37 (aI M32 a34 j35 + 1)) fun M38 =>
                rn PP 222 53 [some (pR l0), some (pI l1), some (pI l2), some (pI 0), none, none, none, none, none, none] [] M38
              else
                rd l0 12 M25 fun a40 =>
                clI (ex 198 6 [pR (some a40), pI r27, pI (aI M a11 j12), pI (aI M a14 j15), pI (-1), pI (aI M a8 j9)] M25) fun r41 M39 =>
                rd l0 12 M39 fun a42 =>
                rd l0 12 M39 fun a43 =>
                ix 21 21 (gR M39 829 a42) ((6 * (l2 - 1)) + aI M a14 j15) M39 fun a44 j45 =>
                bd (wJ M39 a44 j45 (gJ M39 830 a43)) fun M46 =>
                rd l0 12 M46 fun a47 =>
                ix 20 30 (gR M46 826 a47) (l2 - 1) M46 fun a48 j49 =>
                ix 20 20 (gR M46 826 a47) (l2 - 1) M46 fun a50 j51 =>
                bd (wI M46 a50 j51 (aI M46 a48 j49 + 1)) fun M52 =>
                rn PP 222 53 [some (pR l0), some (pI l1), some (pI l2), some (pI r41), none, none, none, none, none, none] [] M52
            else
              rd l0 12 M22 fun a53 =>
              rd l0 12 M22 fun a54 =>
              ix 21 21 (gR M22 820 a54) r24 M22 fun a55 j56 =>
              ix 20 20 (gR M22 825 a53) l2 M22 fun a57 j58 =>
              bd (wI M22 a57 j58 ((aJ M22 a55 j56).toInt32)) fun M59 =>
              rd l0 12 M59 fun a60 =>
              ix 20 20 (gR M59 826 a60) l2 M59 fun a61 j62 =>
              bd (wI M59 a61 j62 0) fun M63 =>
              rn PP 222 53 [some (pR l0), some (pI l1), some (pI (l2 + 1)), some (pI l3), none, none, none, none, none, none] [] M63
          else
            rd l0 12 M22 fun a64 =>
            ix 20 30 (gR M22 776 a64) ((6 * aI M a11 j12) + aI M a14 j15) M22 fun a65 j66 =>
            if ¬ aI M22 a65 j66 = 11 then
              if (0 : Int32) = 0 then
                rd l0 12 M22 fun a68 =>
                clI (ex 223 4 [pR (some a68), pI ((6 * aI M a11 j12) + aI M a14 j15), pI r24] M22) fun r69 M67 =>
                if r69 = 0 then
                  rd l0 12 M67 fun a70 =>
                  rd l0 12 M67 fun a71 =>
                  ix 21 21 (gR M67 829 a70) ((6 * (l2 - 1)) + aI M a14 j15) M67 fun a72 j73 =>
                  bd (wJ M67 a72 j73 (gJ M67 830 a71)) fun M74 =>
                  rd l0 12 M74 fun a75 =>
                  ix 20 30 (gR M74 826 a75) (l2 - 1) M74 fun a76 j77 =>
                  ix 20 20 (gR M74 826 a75) (l2 - 1) M74 fun a78 j79 =>
                  bd (wI M74 a78 j79 (aI M74 a76 j77 + 1)) fun M80 =>
                  rn PP 222 53 [some (pR l0), some (pI l1), some (pI l2), some (pI 0), none, none, none, none, none, none] [] M80
                else
                  rd l0 12 M67 fun a82 =>
                  clI (ex 198 6 [pR (some a82), pI r69, pI (aI M a11 j12), pI (aI M a14 j15), pI (-1), pI (aI M a8 j9)] M67) fun r83 M81 =>
                  rd l0 12 M81 fun a84 =>
                  rd l0 12 M81 fun a85 =>
                  ix 21 21 (gR M81 829 a84) ((6 * (l2 - 1)) + aI M a14 j15) M81 fun a86 j87 =>
                  bd (wJ M81 a86 j87 (gJ M81 830 a85)) fun M88 =>
                  rd l0 12 M88 fun a89 =>
                  ix 20 30 (gR M88 826 a89) (l2 - 1) M88 fun a90 j91 =>
                  ix 20 20 (gR M88 826 a89) (l2 - 1) M88 fun a92 j93 =>
                  bd (wI M88 a92 j93 (aI M88 a90 j91 + 1)) fun M94 =>
                  rn PP 222 53 [some (pR l0), some (pI l1), some (pI l2), some (pI r83), none, none, none, none, none, none] [] M94
              else
                rd l0 12 M22 fun a95 =>
                rd l0 12 M22 fun a96 =>
                ix 21 21 (gR M22 820 a96) r24 M22 fun a97 j98 =>
                ix 20 20 (gR M22 825 a95) l2 M22 fun a99 j100 =>
                bd (wI M22 a99 j100 ((aJ M22 a97 j98).toInt32)) fun M101 =>
                rd l0 12 M101 fun a102 =>
                ix 20 20 (gR M101 826 a102) l2 M101 fun a103 j104 =>
                bd (wI M101 a103 j104 0) fun M105 =>
                rn PP 222 53 [some (pR l0), some (pI l1), some (pI (l2 + 1)), some (pI l3), none, none, none, none, none, none] [] M105
            else
              rd l0 12 M22 fun a106 =>
              ix 20 30 (gR M22 818 a106) r24 M22 fun a107 j108 =>
              if ¬ aI M22 a107 j108 = 11 then
                if (0 : Int32) = 0 then
                  rd l0 12 M22 fun a110 =>
                  clI (ex 223 4 [pR (some a110), pI ((6 * aI M a11 j12) + aI M a14 j15), pI r24] M22) fun r111 M109 =>
                  if r111 = 0 then
                    rd l0 12 M109 fun a112 =>
                    rd l0 12 M109 fun a113 =>
                    ix 21 21 (gR M109 829 a112) ((6 * (l2 - 1)) + aI M a14 j15) M109 fun a114 j115 =>
                    bd (wJ M109 a114 j115 (gJ M109 830 a113)) fun M116 =>
                    rd l0 12 M116 fun a117 =>
                    ix 20 30 (gR M116 826 a117) (l2 - 1) M116 fun a118 j119 =>
                    ix 20 20 (gR M116 826 a117) (l2 - 1) M116 fun a120 j121 =>
                    bd (wI M116 a120 j121 (aI M116 a118 j119 + 1)) fun M122 =>
                    rn PP 222 53 [some (pR l0), some (pI l1), some (pI l2), some (pI 0), none, none, none, none, none, none] [] M122
                  else
                    rd l0 12 M109 fun a124 =>
                    clI (ex 198 6 [pR (some a124), pI r111, pI (aI M a11 j12), pI (aI M a14 j15), pI (-1), pI (aI M a8 j9)] M109) fun r125 M123 =>
                    rd l0 12 M123 fun a126 =>
                    rd l0 12 M123 fun a127 =>
                    ix 21 21 (gR M123 829 a126) ((6 * (l2 - 1)) + aI M a14 j15) M123 fun a128 j129 =>
                    bd (wJ M123 a128 j129 (gJ M123 830 a127)) fun M130 =>
                    rd l0 12 M130 fun a131 =>
                    ix 20 30 (gR M130 826 a131) (l2 - 1) M130 fun a132 j133 =>
                    ix 20 20 (gR M130 826 a131) (l2 - 1) M130 fun a134 j135 =>
                    bd (wI M130 a134 j135 (aI M130 a132 j133 + 1)) fun M136 =>
                    rn PP 222 53 [some (pR l0), some (pI l1), some (pI l2), some (pI r125), none, none, none, none, none, none] [] M136
                else
                  rd l0 12 M22 fun a137 =>
                  rd l0 12 M22 fun a138 =>
                  ix 21 21 (gR M22 820 a138) r24 M22 fun a139 j140 =>
                  ix 20 20 (gR M22 825 a137) l2 M22 fun a141 j142 =>
                  bd (wI M22 a141 j142 ((aJ M22 a139 j140).toInt32)) fun M143 =>
                  rd l0 12 M143 fun a144 =>
                  ix 20 20 (gR M143 826 a144) l2 M143 fun a145 j146 =>
                  bd (wI M143 a145 j146 0) fun M147 =>
                  rn PP 222 53 [some (pR l0), some (pI l1), some (pI (l2 + 1)), some (pI l3), none, none, none, none, none, none] [] M147
              else
                rd l0 12 M22 fun a148 =>
                ix 21 21 (gR M22 820 a148) r24 M22 fun a149 j150 =>
                if lg_cmp (aJ M22 a149 j150) (0 : Int64) < 0 then
                  if (0 : Int32) = 0 then
                    rd l0 12 M22 fun a152 =>
                    clI (ex 223 4 [pR (some a152), pI ((6 * aI M a11 j12) + aI M a14 j15), pI r24] M22) fun r153 M151 =>
                    if r153 = 0 then
                      rd l0 12 M151 fun a154 =>
                      rd l0 12 M151 fun a155 =>
                      ix 21 21 (gR M151 829 a154) ((6 * (l2 - 1)) + aI M a14 j15) M151 fun a156 j157 =>
                      bd (wJ M151 a156 j157 (gJ M151 830 a155)) fun M158 =>
                      rd l0 12 M158 fun a159 =>
                      ix 20 30 (gR M158 826 a159) (l2 - 1) M158 fun a160 j161 =>
                      ix 20 20 (gR M158 826 a159) (l2 - 1) M158 fun a162 j163 =>
                      bd (wI M158 a162 j163 (aI M158 a160 j161 + 1)) fun M164 =>
                      rn PP 222 53 [some (pR l0), some (pI l1), some (pI l2), some (pI 0), none, none, none, none, none, none] [] M164
                    else
                      rd l0 12 M151 fun a166 =>
                      clI (ex 198 6 [pR (some a166), pI r153, pI (aI M a11 j12), pI (aI M a14 j15), pI (-1), pI (aI M a8 j9)] M151) fun r167 M165 =>
                      rd l0 12 M165 fun a168 =>
                      rd l0 12 M165 fun a169 =>
                      ix 21 21 (gR M165 829 a168) ((6 * (l2 - 1)) + aI M a14 j15) M165 fun a170 j171 =>
                      bd (wJ M165 a170 j171 (gJ M165 830 a169)) fun M172 =>
                      rd l0 12 M172 fun a173 =>
                      ix 20 30 (gR M172 826 a173) (l2 - 1) M172 fun a174 j175 =>
                      ix 20 20 (gR M172 826 a173) (l2 - 1) M172 fun a176 j177 =>
                      bd (wI M172 a176 j177 (aI M172 a174 j175 + 1)) fun M178 =>
                      rn PP 222 53 [some (pR l0), some (pI l1), some (pI l2), some (pI r167), none, none, none, none, none, none] [] M178
                  else
                    rd l0 12 M22 fun a179 =>
                    rd l0 12 M22 fun a180 =>
                    ix 21 21 (gR M22 820 a180) r24 M22 fun a181 j182 =>
                    ix 20 20 (gR M22 825 a179) l2 M22 fun a183 j184 =>
                    bd (wI M22 a183 j184 ((aJ M22 a181 j182).toInt32)) fun M185 =>
                    rd l0 12 M185 fun a186 =>
                    ix 20 20 (gR M185 826 a186) l2 M185 fun a187 j188 =>
                    bd (wI M185 a187 j188 0) fun M189 =>
                    rn PP 222 53 [some (pR l0), some (pI l1), some (pI (l2 + 1)), some (pI l3), none, none, none, none, none, none] [] M189
                else
                  rd l0 12 M22 fun a190 =>
                  rd l0 12 M22 fun a191 =>
                  ix 21 21 (gR M22 820 a191) r24 M22 fun a192 j193 =>
                  ix 20 30 (gR M22 823 a190) ((aJ M22 a192 j193).toInt32) M22 fun a194 j195 =>
                  if ¬ aI M22 a194 j195 = (-1) then
                    if (0 : Int32) = 0 then
                      rd l0 12 M22 fun a197 =>
                      clI (ex 223 4 [pR (some a197), pI ((6 * aI M a11 j12) + aI M a14 j15), pI r24] M22) fun r198 M196 =>
                      if r198 = 0 then
                        rd l0 12 M196 fun a199 =>
                        rd l0 12 M196 fun a200 =>
                        ix 21 21 (gR M196 829 a199) ((6 * (l2 - 1)) + aI M a14 j15) M196 fun a201 j202 =>
                        bd (wJ M196 a201 j202 (gJ M196 830 a200)) fun M203 =>
                        rd l0 12 M203 fun a204 =>
                        ix 20 30 (gR M203 826 a204) (l2 - 1) M203 fun a205 j206 =>
                        ix 20 20 (gR M203 826 a204) (l2 - 1) M203 fun a207 j208 =>
                        bd (wI M203 a207 j208 (aI M203 a205 j206 + 1)) fun M209 =>
                        rn PP 222 53 [some (pR l0), some (pI l1), some (pI l2), some (pI 0), none, none, none, none, none, none] [] M209
                      else
                        rd l0 12 M196 fun a211 =>
                        clI (ex 198 6 [pR (some a211), pI r198, pI (aI M a11 j12), pI (aI M a14 j15), pI (-1), pI (aI M a8 j9)] M196) fun r212 M210 =>
                        rd l0 12 M210 fun a213 =>
                        rd l0 12 M210 fun a214 =>
                        ix 21 21 (gR M210 829 a213) ((6 * (l2 - 1)) + aI M a14 j15) M210 fun a215 j216 =>
                        bd (wJ M210 a215 j216 (gJ M210 830 a214)) fun M217 =>
                        rd l0 12 M217 fun a218 =>
                        ix 20 30 (gR M217 826 a218) (l2 - 1) M217 fun a219 j220 =>
                        ix 20 20 (gR M217 826 a218) (l2 - 1) M217 fun a221 j222 =>
                        bd (wI M217 a221 j222 (aI M217 a219 j220 + 1)) fun M223 =>
                        rn PP 222 53 [some (pR l0), some (pI l1), some (pI l2), some (pI r212), none, none, none, none, none, none] [] M223
                    else
                      rd l0 12 M22 fun a224 =>
                      rd l0 12 M22 fun a225 =>
                      ix 21 21 (gR M22 820 a225) r24 M22 fun a226 j227 =>
                      ix 20 20 (gR M22 825 a224) l2 M22 fun a228 j229 =>
                      bd (wI M22 a228 j229 ((aJ M22 a226 j227).toInt32)) fun M230 =>
                      rd l0 12 M230 fun a231 =>
                      ix 20 20 (gR M230 826 a231) l2 M230 fun a232 j233 =>
                      bd (wI M230 a232 j233 0) fun M234 =>
                      rn PP 222 53 [some (pR l0), some (pI l1), some (pI (l2 + 1)), some (pI l3), none, none, none, none, none, none] [] M234
                  else
                    if (1 : Int32) = 0 then
                      rd l0 12 M22 fun a236 =>
                      clI (ex 223 4 [pR (some a236), pI ((6 * aI M a11 j12) + aI M a14 j15), pI r24] M22) fun r237 M235 =>
                      if r237 = 0 then
                        rd l0 12 M235 fun a238 =>
                        rd l0 12 M235 fun a239 =>
                        ix 21 21 (gR M235 829 a238) ((6 * (l2 - 1)) + aI M a14 j15) M235 fun a240 j241 =>
                        bd (wJ M235 a240 j241 (gJ M235 830 a239)) fun M242 =>
                        rd l0 12 M242 fun a243 =>
                        ix 20 30 (gR M242 826 a243) (l2 - 1) M242 fun a244 j245 =>
                        ix 20 20 (gR M242 826 a243) (l2 - 1) M242 fun a246 j247 =>
                        bd (wI M242 a246 j247 (aI M242 a244 j245 + 1)) fun M248 =>
                        rn PP 222 53 [some (pR l0), some (pI l1), some (pI l2), some (pI 0), none, none, none, none, none, none] [] M248
                      else
                        rd l0 12 M235 fun a250 =>
                        clI (ex 198 6 [pR (some a250), pI r237, pI (aI M a11 j12), pI (aI M a14 j15), pI (-1), pI (aI M a8 j9)] M235) fun r251 M249 =>
                        rd l0 12 M249 fun a252 =>
                        rd l0 12 M249 fun a253 =>
                        ix 21 21 (gR M249 829 a252) ((6 * (l2 - 1)) + aI M a14 j15) M249 fun a254 j255 =>
                        bd (wJ M249 a254 j255 (gJ M249 830 a253)) fun M256 =>
                        rd l0 12 M256 fun a257 =>
                        ix 20 30 (gR M256 826 a257) (l2 - 1) M256 fun a258 j259 =>
                        ix 20 20 (gR M256 826 a257) (l2 - 1) M256 fun a260 j261 =>
                        bd (wI M256 a260 j261 (aI M256 a258 j259 + 1)) fun M262 =>
                        rn PP 222 53 [some (pR l0), some (pI l1), some (pI l2), some (pI r251), none, none, none, none, none, none] [] M262
                    else
                      rd l0 12 M22 fun a263 =>
                      rd l0 12 M22 fun a264 =>
                      ix 21 21 (gR M22 820 a264) r24 M22 fun a265 j266 =>
                      ix 20 20 (gR M22 825 a263) l2 M22 fun a267 j268 =>
                      bd (wI M22 a267 j268 ((aJ M22 a265 j266).toInt32)) fun M269 =>
                      rd l0 12 M269 fun a270 =>
                      ix 20 20 (gR M269 826 a270) l2 M269 fun a271 j272 =>
                      bd (wI M269 a271 j272 0) fun M273 =>
                      rn PP 222 53 [some (pR l0), some (pI l1), some (pI (l2 + 1)), some (pI l3), none, none, none, none, none, none] [] M273
        else
          rn PP 222 105 [some (pR l0), some (pI l1), some (pI l2), none, some (pI (aI M a8 j9)), some (pI (aI M a11 j12)), none, some (pI 0), none, none] [] M := (rn_un PP [53, 105] 222 127 53 _ _ M).trans rfl
set_option maxRecDepth 100000 in
set_option maxHeartbeats 4000000 in
theorem tX12_load_105 (l0 : Option Nat) (l1 : Int32) (l2 : Int32) (l4 : Int32) (l5 : Int32) (l7 : Int32) (M : Mem) : rn PP 222 105 [some (pR l0), some (pI l1), some (pI l2), none, some (pI l4), some (pI l5), none, some (pI l7), none, none] [] M =
    rd l0 12 M fun a1 =>
    ix 20 30 (gR M 774 a1) l5 M fun a2 j3 =>
    if aI M a2 j3 ≤ l7 then
      rd l0 12 M fun a5 =>
      clI (ex 199 8 [pR (some a5), pI l5, pI l4] M) fun r6 M4 =>
      if 0 ≤ r6 then
        rd l0 12 M4 fun a7 =>
        if 0 ≤ r6 then
          ix 20 20 (gR M4 823 a7) l4 M4 fun a8 j9 =>
          bd (wI M4 a8 j9 r6) fun M10 =>
          rn PP 222 53 [some (pR l0), some (pI l1), some (pI (l2 + (-1))), some (pI 0), none, none, none, none, none, none] [] M10
        else
          ix 20 20 (gR M4 823 a7) l4 M4 fun a11 j12 =>
          bd (wI M4 a11 j12 (-1)) fun M13 =>
          rn PP 222 53 [some (pR l0), some (pI l1), some (pI (l2 + (-1))), some (pI 0), none, none, none, none, none, none] [] M13
      else
        rd l0 12 M4 fun a14 =>
        if 0 ≤ r6 then
          ix 20 20 (gR M4 823 a14) l4 M4 fun a15 j16 =>
          bd (wI M4 a15 j16 r6) fun M17 =>
          rn PP 222 53 [some (pR l0), some (pI l1), some (pI (l2 + (-1))), some (pI r6), none, none, none, none, none, none] [] M17
        else
          ix 20 20 (gR M4 823 a14) l4 M4 fun a18 j19 =>
          bd (wI M4 a18 j19 (-1)) fun M20 =>
          rn PP 222 53 [some (pR l0), some (pI l1), some (pI (l2 + (-1))), some (pI r6), none, none, none, none, none, none] [] M20
    else
      rd l0 12 M fun a21 =>
      rd l0 12 M fun a22 =>
      ix 21 21 (gR M 829 a22) ((6 * (l2 - 1)) + l7) M fun a23 j24 =>
      ix 21 21 (gR M 806 a21) l7 M fun a25 j26 =>
      bd (wJ M a25 j26 (aJ M a23 j24)) fun M27 =>
      rn PP 222 105 [some (pR l0), some (pI l1), some (pI l2), none, some (pI l4), some (pI l5), none, some (pI (l7 + 1)), none, none] [] M27 := (rn_un PP [53, 105] 222 29 105 _ _ M).trans rfl
set_option maxRecDepth 100000 in
set_option maxHeartbeats 4000000 in
theorem tX12_comes (r0 : Option Nat) (p0 : Int32) (p1 : Int32) (M : Mem) : ex 223 4 [pR r0, pI p0, pI p1] M =
    rd r0 12 M fun a1 =>
    ix 21 21 (gR M 778 a1) p0 M fun a2 j3 =>
    rd r0 12 M fun a4 =>
    bd (sJ M 830 a4 (aJ M a2 j3)) fun M5 =>
    if ¬ p1 = (-1) then
      rd r0 12 M5 fun a7 =>
      clI (ex 219 10 [pR (some a7), pI p0, pI p1] M5) fun r8 M6 =>
      if ¬ r8 = 0 then
        some (some (pI r8), M6)
      else
        rd r0 12 M6 fun a9 =>
        ix 20 30 (gR M6 776 a9) p0 M6 fun a10 j11 =>
        if aI M6 a10 j11 = 11 then
          rd r0 12 M6 fun a12 =>
          ix 21 21 (gR M6 820 a12) p1 M6 fun a13 j14 =>
          if 0 ≤ lg_cmp (aJ M6 a13 j14) (0 : Int64) then
            rd r0 12 M6 fun a15 =>
            rd r0 12 M6 fun a16 =>
            ix 21 21 (gR M6 820 a16) p1 M6 fun a17 j18 =>
            ix 20 30 (gR M6 823 a15) ((aJ M6 a17 j18).toInt32) M6 fun a19 j20 =>
            rd r0 12 M6 fun a21 =>
            bd (sJ M6 830 a21 ((aI M6 a19 j20).toInt64)) fun M22 =>
            rd r0 12 M22 fun a23 =>
            if lg_cmp (gJ M22 830 a23) (0 : Int64) < 0 then
              some (some (pI 0), M22)
            else
              rd r0 12 M22 fun a24 =>
              rd r0 12 M22 fun a25 =>
              ix 20 30 (gR M22 802 a24) ((gJ M22 830 a25).toInt32) M22 fun a26 j27 =>
              rd r0 12 M22 fun a28 =>
              ix 20 30 (gR M22 777 a28) p0 M22 fun a29 j30 =>
              rd r0 12 M22 fun a32 =>
              clI (ex 174 3 [pR (some a32), pI (aI M22 a26 j27), pI (aI M22 a29 j30)] M22) fun r33 M31 =>
              if ¬ r33 = 0 then
                some (some (pI 0), M31)
              else
                some (some (pI 6), M31)
          else
            rd r0 12 M6 fun a34 =>
            bd (sJ M6 830 a34 (-1 : Int64)) fun M35 =>
            rd r0 12 M35 fun a36 =>
            if lg_cmp (gJ M35 830 a36) (0 : Int64) < 0 then
              some (some (pI 0), M35)
            else
              rd r0 12 M35 fun a37 =>
              rd r0 12 M35 fun a38 =>
              ix 20 30 (gR M35 802 a37) ((gJ M35 830 a38).toInt32) M35 fun a39 j40 =>
              rd r0 12 M35 fun a41 =>
              ix 20 30 (gR M35 777 a41) p0 M35 fun a42 j43 =>
              rd r0 12 M35 fun a45 =>
              clI (ex 174 3 [pR (some a45), pI (aI M35 a39 j40), pI (aI M35 a42 j43)] M35) fun r46 M44 =>
              if ¬ r46 = 0 then
                some (some (pI 0), M44)
              else
                some (some (pI 6), M44)
        else
          some (some (pI r8), M6)
    else
      some (some (pI 0), M5) := (rn_un PP [] 223 62 0 _ [] M).trans rfl
set_option maxRecDepth 100000 in
set_option maxHeartbeats 4000000 in
theorem tX12_line (r0 : Option Nat) (p0 : Int32) (p1 : Int32) (M : Mem) : ex 224 3 [pR r0, pI p0, pI p1] M =
    rd r0 12 M fun a1 =>
    clI (ex 157 6 [pJ p0.toInt64, pJ (0 : Int64), pJ ((gI M 813 a1 - 1).toInt64)] M) fun r3 M2 =>
    if ¬ r3 = 0 then
      if p1 = Int32.ofInt (0) then
        rd r0 12 M2 fun a4 =>
        ix 20 30 (gR M2 814 a4) p0 M2 fun a5 j6 =>
        some (some (pI (aI M2 a5 j6)), M2)
      else if p1 = Int32.ofInt (1) then
        rd r0 12 M2 fun a7 =>
        ix 20 30 (gR M2 815 a7) p0 M2 fun a8 j9 =>
        some (some (pI (aI M2 a8 j9)), M2)
      else if p1 = Int32.ofInt (2) then
        rd r0 12 M2 fun a10 =>
        ix 20 30 (gR M2 816 a10) p0 M2 fun a11 j12 =>
        some (some (pI (aI M2 a11 j12)), M2)
      else if p1 = Int32.ofInt (3) then
        rd r0 12 M2 fun a13 =>
        ix 20 30 (gR M2 823 a13) p0 M2 fun a14 j15 =>
        some (some (pI (aI M2 a14 j15)), M2)
      else 
        some (some (pI (-1)), M2)
    else
      some (some (pI (-1)), M2) := (rn_un PP [] 224 18 0 _ [] M).trans rfl
set_option maxRecDepth 100000 in
set_option maxHeartbeats 4000000 in
theorem tX12_has (r0 : Option Nat) (p0 : Int32) (p1 : Int64) (p2 : Int64) (p3 : Int32) (p4 : Int32) (p5 : Int32) (M : Mem) : ex 225 14 [pR r0, pI p0, pJ p1, pJ p2, pI p3, pI p4, pI p5] M =
    rd r0 12 M fun a2 =>
    clI (ex 218 5 [pR (some a2), pI p0, pJ p1] M) fun r3 M1 =>
    if r3 = (-1) then
      zo 0 (some (some (pI 0), M1))
    else
      rd r0 12 M1 fun a4 =>
      ix 20 30 (gR M1 818 a4) r3 M1 fun a5 j6 =>
      if aI M1 a5 j6 = 8 then
        if p3 = (-1) then
          rn PP 225 64 [some (pR r0), none, none, none, some (pJ p2), none, some (pI p3), some (pI p4), some (pI p5), some (pI r3), some (pI 0), some (pI 0), none, none] [] M1
        else
          rd r0 12 M1 fun a7 =>
          ix 20 30 (gR M1 819 a7) r3 M1 fun a8 j9 =>
          if aI M1 a8 j9 = p3 then
            rn PP 225 64 [some (pR r0), none, none, none, some (pJ p2), none, some (pI p3), some (pI p4), some (pI p5), some (pI r3), some (pI 0), some (pI 0), none, none] [] M1
          else
            zo 0 (some (some (pI 0), M1))
      else
        rd r0 12 M1 fun a10 =>
        ix 20 30 (gR M1 818 a10) r3 M1 fun a11 j12 =>
        if ¬ aI M1 a11 j12 = 9 then
          zo 0 (some (some (pI 0), M1))
        else
          if p3 = (-1) then
            rn PP 225 64 [some (pR r0), none, none, none, some (pJ p2), none, some (pI p3), some (pI p4), some (pI p5), some (pI r3), some (pI 0), some (pI 0), none, none] [] M1
          else
            rd r0 12 M1 fun a13 =>
            ix 20 30 (gR M1 819 a13) r3 M1 fun a14 j15 =>
            if aI M1 a14 j15 = p3 then
              rn PP 225 64 [some (pR r0), none, none, none, some (pJ p2), none, some (pI p3), some (pI p4), some (pI p5), some (pI r3), some (pI 0), some (pI 0), none, none] [] M1
            else
              zo 0 (some (some (pI 0), M1)) := (rn_un PP [64] 225 35 0 _ [] M).trans rfl
set_option maxRecDepth 100000 in
set_option maxHeartbeats 4000000 in
theorem tX12_has_64 (l0 : Option Nat) (l4 : Int64) (l6 : Int32) (l7 : Int32) (l8 : Int32) (l9 : Int32) (l10 : Int32) (l11 : Int32) (M : Mem) : rn PP 225 64 [some (pR l0), none, none, none, some (pJ l4), none, some (pI l6), some (pI l7), some (pI l8), some (pI l9), some (pI l10), some (pI l11), none, none] [] M =
    rd l0 12 M fun a1 =>
    ix 20 30 (gR M 822 a1) l9 M fun a2 j3 =>
    if aI M a2 j3 ≤ l11 then
      zo l10 (some (some (pI l10), M))
    else
      rd l0 12 M fun a4 =>
      ix 21 21 (gR M 821 a4) ((16 * l9) + l11) M fun a5 j6 =>
      if ¬ l10 = 0 then
        rn PP 225 64 [some (pR l0), none, none, none, some (pJ l4), none, some (pI l6), some (pI l7), some (pI l8), some (pI l9), some (pI 1), some (pI (l11 + 1)), none, none] [] M
      else
        if ¬ l6 = (-1) then
          rd l0 12 M fun a8 =>
          clI (ex 165 5 [pR (some a8), pI l6, pJ (aJ M a5 j6)] M) fun r9 M7 =>
          if r9 = (-1) then
            rn PP 225 64 [some (pR l0), none, none, none, some (pJ l4), none, some (pI l6), some (pI l7), some (pI l8), some (pI l9), some (pI 0), some (pI (l11 + 1)), none, none] [] M7
          else
            rd l0 12 M7 fun a11 =>
            clI (ex 165 5 [pR (some a11), pI l6, pJ (aJ M a5 j6)] M7) fun r12 M10 =>
            clI (ex 157 6 [pJ r12.toInt64, pJ l7.toInt64, pJ l8.toInt64] M10) fun r14 M13 =>
            if r14 = 0 then
              rn PP 225 64 [some (pR l0), none, none, none, some (pJ l4), none, some (pI l6), some (pI l7), some (pI l8), some (pI l9), some (pI 0), some (pI (l11 + 1)), none, none] [] M13
            else
              rn PP 225 64 [some (pR l0), none, none, none, some (pJ l4), none, some (pI l6), some (pI l7), some (pI l8), some (pI l9), some (pI 1), some (pI (l11 + 1)), none, none] [] M13
        else
          if ¬ lg_cmp (aJ M a5 j6) l4 = 0 then
            rn PP 225 64 [some (pR l0), none, none, none, some (pJ l4), none, some (pI l6), some (pI l7), some (pI l8), some (pI l9), some (pI 0), some (pI (l11 + 1)), none, none] [] M
          else
            rn PP 225 64 [some (pR l0), none, none, none, some (pJ l4), none, some (pI l6), some (pI l7), some (pI l8), some (pI l9), some (pI 1), some (pI (l11 + 1)), none, none] [] M := (rn_un PP [64] 225 44 64 _ _ M).trans rfl
set_option maxRecDepth 100000 in
set_option maxHeartbeats 4000000 in
theorem tX12_found (r0 : Option Nat) (p0 : Int64) (p1 : Int64) (p2 : Int32) (p3 : Int32) (p4 : Int32) (p5 : Int32) (M : Mem) : ex 226 11 [pR r0, pJ p0, pJ p1, pI p2, pI p3, pI p4, pI p5] M =
    rn PP 226 6 [some (pR r0), some (pJ p0), none, some (pJ p1), none, some (pI p2), some (pI p3), some (pI p4), some (pI p5), some (pI 0), some (pI 0)] [] M := (rn_un PP [6] 226 6 0 _ [] M).trans rfl
set_option maxRecDepth 100000 in
set_option maxHeartbeats 4000000 in
theorem tX12_found_6 (l0 : Option Nat) (l1 : Int64) (l3 : Int64) (l5 : Int32) (l6 : Int32) (l7 : Int32) (l8 : Int32) (l9 : Int32) (l10 : Int32) (M : Mem) : rn PP 226 6 [some (pR l0), some (pJ l1), none, some (pJ l3), none, some (pI l5), some (pI l6), some (pI l7), some (pI l8), some (pI l9), some (pI l10)] [] M =
    rd l0 12 M fun a1 =>
    if gI M 813 a1 ≤ l10 then
      if ¬ l8 = (-1) then
        some (some (pI (-1)), M)
      else
        some (some (pI l9), M)
    else
      rd l0 12 M fun a3 =>
      clI (ex 225 14 [pR (some a3), pI l10, pJ l1, pJ l3, pI l5, pI l6, pI l7] M) fun r4 M2 =>
      if r4 = 0 then
        rn PP 226 6 [some (pR l0), some (pJ l1), none, some (pJ l3), none, some (pI l5), some (pI l6), some (pI l7), some (pI l8), some (pI l9), some (pI (l10 + 1))] [] M2
      else
        if ¬ l9 = l8 then
          rn PP 226 6 [some (pR l0), some (pJ l1), none, some (pJ l3), none, some (pI l5), some (pI l6), some (pI l7), some (pI l8), some (pI (l9 + 1)), some (pI (l10 + 1))] [] M2
        else
          some (some (pI l10), M2) := (rn_un PP [6] 226 21 6 _ _ M).trans rfl
set_option maxRecDepth 100000 in
set_option maxHeartbeats 4000000 in
theorem tX12_word (r0 : Option Nat) (p0 : Int64) (p1 : Int64) (p2 : Int32) (M : Mem) : ex 227 6 [pR r0, pJ p0, pJ p1, pI p2] M =
    rd r0 12 M fun a2 =>
    clI (ex 226 11 [pR (some a2), pJ p0, pJ p1, pI (-1), pI 0, pI 0, pI p2] M) fun r3 M1 =>
    some (some (pI r3), M1) := (rn_un PP [] 227 10 0 _ [] M).trans rfl
set_option maxRecDepth 100000 in
set_option maxHeartbeats 4000000 in
theorem tX12_range (r0 : Option Nat) (p0 : Int64) (p1 : Int32) (p2 : Int32) (p3 : Int32) (p4 : Int32) (M : Mem) : ex 228 7 [pR r0, pJ p0, pI p1, pI p2, pI p3, pI p4] M =
    rd r0 12 M fun a2 =>
    clI (ex 159 2 [pR (some a2), pI p1] M) fun r3 M1 =>
    if r3 = 0 then
      some (some (pI (-1)), M1)
    else
      rd r0 12 M1 fun a5 =>
      clI (ex 226 11 [pR (some a5), pJ p0, pJ (0 : Int64), pI p1, pI p2, pI p3, pI p4] M1) fun r6 M4 =>
      some (some (pI r6), M4) := (rn_un PP [] 228 15 0 _ [] M).trans rfl
set_option maxRecDepth 100000 in
set_option maxHeartbeats 4000000 in
theorem tX12_count (r0 : Option Nat) (p0 : Int32) (M : Mem) : ex 229 2 [pR r0, pI p0] M =
    if p0 = Int32.ofInt (0) then
      rd r0 12 M fun a1 =>
      some (some (pI (gI M 768 a1)), M)
    else if p0 = Int32.ofInt (1) then
      rd r0 12 M fun a2 =>
      some (some (pI (gI M 773 a2)), M)
    else if p0 = Int32.ofInt (2) then
      rd r0 12 M fun a3 =>
      some (some (pI (gI M 784 a3)), M)
    else if p0 = Int32.ofInt (3) then
      rd r0 12 M fun a4 =>
      some (some (pI (gI M 793 a4)), M)
    else if p0 = Int32.ofInt (4) then
      rd r0 12 M fun a5 =>
      some (some (pI (gI M 791 a5)), M)
    else if p0 = Int32.ofInt (5) then
      rd r0 12 M fun a6 =>
      some (some (pI (gI M 813 a6)), M)
    else if p0 = Int32.ofInt (6) then
      rd r0 12 M fun a7 =>
      some (some (pI (gI M 790 a7)), M)
    else if p0 = Int32.ofInt (7) then
      rd r0 12 M fun a8 =>
      some (some (pI (gI M 828 a8)), M)
    else 
      some (some (pI (-1)), M) := (rn_un PP [] 229 6 0 _ [] M).trans rfl
set_option maxRecDepth 100000 in
set_option maxHeartbeats 4000000 in
theorem tX12_about (r0 : Option Nat) (p0 : Int32) (p1 : Int32) (M : Mem) : ex 230 3 [pR r0, pI p0, pI p1] M =
    if p1 = Int32.ofInt (0) then
      rd r0 12 M fun a2 =>
      clI (ex 159 2 [pR (some a2), pI p0] M) fun r3 M1 =>
      if r3 = 0 then
        some (some (pI (-1)), M1)
      else
        rd r0 12 M1 fun a4 =>
        ix 20 30 (gR M1 769 a4) p0 M1 fun a5 j6 =>
        some (some (pI (aI M1 a5 j6)), M1)
    else if p1 = Int32.ofInt (1) then
      rd r0 12 M fun a8 =>
      clI (ex 161 2 [pR (some a8), pI p0] M) fun r9 M7 =>
      if r9 = 0 then
        some (some (pI (-1)), M7)
      else
        rd r0 12 M7 fun a10 =>
        ix 20 30 (gR M7 774 a10) p0 M7 fun a11 j12 =>
        some (some (pI (aI M7 a11 j12)), M7)
    else if p1 = Int32.ofInt (2) then
      rd r0 12 M fun a14 =>
      clI (ex 161 2 [pR (some a14), pI p0] M) fun r15 M13 =>
      if r15 = 0 then
        some (some (pI (-1)), M13)
      else
        rd r0 12 M13 fun a16 =>
        ix 20 30 (gR M13 779 a16) p0 M13 fun a17 j18 =>
        some (some (pI (aI M13 a17 j18)), M13)
    else if p1 = Int32.ofInt (3) then
      rd r0 12 M fun a20 =>
      clI (ex 163 2 [pR (some a20), pI p0] M) fun r21 M19 =>
      if r21 = 0 then
        some (some (pI (-1)), M19)
      else
        rd r0 12 M19 fun a22 =>
        ix 20 30 (gR M19 785 a22) p0 M19 fun a23 j24 =>
        some (some (pI (aI M19 a23 j24)), M19)
    else if p1 = Int32.ofInt (4) then
      rd r0 12 M fun a26 =>
      clI (ex 163 2 [pR (some a26), pI p0] M) fun r27 M25 =>
      if ¬ r27 = 0 then
        rd r0 12 M25 fun a29 =>
        clV (ex 172 5 [pR (some a29), pI p0] M25) fun M28 =>
        rd r0 12 M28 fun a30 =>
        some (some (pI (gI M28 788 a30)), M28)
      else
        some (some (pI (-1)), M25)
    else 
      some (some (pI (-1)), M) := (rn_un PP [] 230 13 0 _ [] M).trans rfl
