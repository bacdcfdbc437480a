/-! the methods as pure terms: printed by wip/whole/gen/gen_t.py -/
set_option maxRecDepth 100000 in
set_option maxHeartbeats 4000000 in
theorem tX11_init (r0 : Option Nat) (M : Mem) : ex 72 1 [pR r0] M =
    nn r0
    (bd (nO M 0 3) fun M2 =>
    rd (some (mT M)) 0 M2 fun a4 =>
    clV (ex 11 1 [pR (some a4)] M2) fun M3 =>
    rd r0 11 M3 fun a5 =>
    bd (sF M3 704 a5 (some (mT M))) fun M6 =>
    bd (nO M6 0 3) fun M7 =>
    rd (some (mT M6)) 0 M7 fun a9 =>
    clV (ex 11 1 [pR (some a9)] M7) fun M8 =>
    rd r0 11 M8 fun a10 =>
    bd (sF M8 705 a10 (some (mT M6))) fun M11 =>
    bd (nO M11 0 3) fun M12 =>
    rd (some (mT M11)) 0 M12 fun a14 =>
    clV (ex 11 1 [pR (some a14)] M12) fun M13 =>
    rd r0 11 M13 fun a15 =>
    bd (sF M13 706 a15 (some (mT M11))) fun M16 =>
    bd (nO M16 0 3) fun M17 =>
    rd (some (mT M16)) 0 M17 fun a19 =>
    clV (ex 11 1 [pR (some a19)] M17) fun M18 =>
    rd r0 11 M18 fun a20 =>
    bd (sF M18 707 a20 (some (mT M16))) fun M21 =>
    bd (nO M21 0 3) fun M22 =>
    rd (some (mT M21)) 0 M22 fun a24 =>
    clV (ex 11 1 [pR (some a24)] M22) fun M23 =>
    rd r0 11 M23 fun a25 =>
    bd (sF M23 710 a25 (some (mT M21))) fun M26 =>
    gd (¬ (10 : Int32) < 0 ∧ (10 : Int32).toNatClampNeg ≤ 60000000)
    (bd (nA M26 20 (10 : Int32).toNatClampNeg) fun M27 =>
    rd r0 11 M27 fun a28 =>
    bd (sF M27 714 a28 (some (mT M26))) fun M29 =>
    gd (¬ (6 : Int32) < 0 ∧ (6 : Int32).toNatClampNeg ≤ 60000000)
    (bd (nA M29 21 (6 : Int32).toNatClampNeg) fun M30 =>
    rd r0 11 M30 fun a31 =>
    bd (sF M30 716 a31 (some (mT M29))) fun M32 =>
    gd (¬ (6 : Int32) < 0 ∧ (6 : Int32).toNatClampNeg ≤ 60000000)
    (bd (nA M32 21 (6 : Int32).toNatClampNeg) fun M33 =>
    rd r0 11 M33 fun a34 =>
    bd (sF M33 717 a34 (some (mT M32))) fun M35 =>
    gd (¬ (5 : Int32) < 0 ∧ (5 : Int32).toNatClampNeg ≤ 60000000)
    (bd (nA M35 20 (5 : Int32).toNatClampNeg) fun M36 =>
    ix 20 20 (some (mT M35)) 0 M36 fun a37 j38 =>
    bd (wI M36 a37 j38 0) fun M39 =>
    ix 20 20 (some (mT M35)) 1 M39 fun a40 j41 =>
    bd (wI M39 a40 j41 (-1)) fun M42 =>
    ix 20 20 (some (mT M35)) 2 M42 fun a43 j44 =>
    bd (wI M42 a43 j44 (-1)) fun M45 =>
    ix 20 20 (some (mT M35)) 3 M45 fun a46 j47 =>
    bd (wI M45 a46 j47 (-1)) fun M48 =>
    ix 20 20 (some (mT M35)) 4 M48 fun a49 j50 =>
    bd (wI M48 a49 j50 (-1)) fun M51 =>
    rd r0 11 M51 fun a52 =>
    bd (sF M51 718 a52 (some (mT M35))) fun M53 =>
    bd (nO M53 0 3) fun M54 =>
    rd (some (mT M53)) 0 M54 fun a56 =>
    clV (ex 11 1 [pR (some a56)] M54) fun M55 =>
    rd r0 11 M55 fun a57 =>
    bd (sF M55 719 a57 (some (mT M53))) fun M58 =>
    gd (¬ (64 : Int32) < 0 ∧ (64 : Int32).toNatClampNeg ≤ 60000000)
    (bd (nA M58 20 (64 : Int32).toNatClampNeg) fun M59 =>
    rd r0 11 M59 fun a60 =>
    bd (sF M59 720 a60 (some (mT M58))) fun M61 =>
    some (none, M61))))))) := (rn_un PP [] 72 74 0 _ [] M).trans rfl
set_option maxRecDepth 100000 in
set_option maxHeartbeats 4000000 in
theorem tX11_enumeration (r0 : Option Nat) (M : Mem) : ex 73 1 [pR r0] M =
    rd r0 11 M fun a1 =>
    if gI M 711 a1 ≤ 0 then
      rd r0 11 M fun a2 =>
      rd (gR M 704 a2) 0 M fun a4 =>
      clI (ex 14 1 [pR (some a4)] M) fun r5 M3 =>
      if r5 < 4 then
        rd r0 11 M3 fun a6 =>
        bd (nO M3 3 4) fun M7 =>
        rd (some (mT M3)) 3 M7 fun a9 =>
        clV (ex 45 1 [pR (some a9)] M7) fun M8 =>
        rd (gR M3 704 a6) 0 M8 fun a11 =>
        clI (ex 19 2 [pR (some a11), pR (some (mT M3))] M8) fun r12 M10 =>
        rd r0 11 M10 fun a13 =>
        rd (gR M10 704 a13) 0 M10 fun a15 =>
        clI (ex 14 1 [pR (some a15)] M10) fun r16 M14 =>
        some (some (pI (r16 - 1)), M14)
      else
        some (some (pI (-3)), M3)
    else
      some (some (pI (-2)), M) := (rn_un PP [] 73 22 0 _ [] M).trans rfl
set_option maxRecDepth 100000 in
set_option maxHeartbeats 4000000 in
theorem tX11_constant (r0 : Option Nat) (p0 : Int32) (p1 : Int64) (p2 : Int32) (M : Mem) : ex 74 6 [pR r0, pI p0, pJ p1, pI p2] M =
    rd r0 11 M fun a2 =>
    clR (ex 107 2 [pR (some a2), pI p0] M) fun r3 M1 =>
    if r3 = none then
      some (some (pI (-1)), M1)
    else
      clI (ex 30 6 [pJ p1] M1) fun r5 M4 =>
      if r5 = 0 then
        some (some (pI (-1)), M4)
      else
        rd r3 3 M4 fun a7 =>
        clI (ex 47 4 [pR (some a7), pJ p1] M4) fun r8 M6 =>
        if r8 = (-1) then
          rd r0 11 M6 fun a9 =>
          if gI M6 711 a9 ≤ 0 then
            rd r3 3 M6 fun a10 =>
            rd (gR M6 192 a10) 0 M6 fun a12 =>
            clI (ex 14 1 [pR (some a12)] M6) fun r13 M11 =>
            if r13 < 8 then
              rd r3 3 M11 fun a14 =>
              bd (nO M11 2 2) fun M15 =>
              rd (some (mT M11)) 2 M15 fun a17 =>
              clV (ex 42 4 [pR (some a17), pJ p1, pI p2] M15) fun M16 =>
              rd (gR M11 192 a14) 0 M16 fun a19 =>
              clI (ex 19 2 [pR (some a19), pR (some (mT M11))] M16) fun r20 M18 =>
              rd r3 3 M18 fun a21 =>
              rd (gR M18 192 a21) 0 M18 fun a23 =>
              clI (ex 14 1 [pR (some a23)] M18) fun r24 M22 =>
              some (some (pI (r24 - 1)), M22)
            else
              some (some (pI (-3)), M11)
          else
            some (some (pI (-2)), M6)
        else
          some (some (pI (-1)), M6) := (rn_un PP [] 74 38 0 _ [] M).trans rfl
set_option maxRecDepth 100000 in
set_option maxHeartbeats 4000000 in
theorem tX11_exchange (r0 : Option Nat) (p0 : Int32) (p1 : Int32) (p2 : Int32) (M : Mem) : ex 75 7 [pR r0, pI p0, pI p1, pI p2] M =
    rd r0 11 M fun a2 =>
    clR (ex 107 2 [pR (some a2), pI p0] M) fun r3 M1 =>
    if r3 = none then
      some (some (pI (-1)), M1)
    else
      rd r3 3 M1 fun a5 =>
      clR (ex 46 3 [pR (some a5), pJ p1.toInt64] M1) fun r6 M4 =>
      rd r3 3 M4 fun a8 =>
      clR (ex 46 3 [pR (some a8), pJ p2.toInt64] M4) fun r9 M7 =>
      if r6 = none then
        some (some (pI (-1)), M7)
      else
        if r9 = none then
          some (some (pI (-1)), M7)
        else
          rd r0 11 M7 fun a10 =>
          if gI M7 711 a10 ≤ 0 then
            rd r3 3 M7 fun a11 =>
            rd (gR M7 192 a11) 0 M7 fun a13 =>
            clR (ex 17 4 [pR (some a13), pI p1, pR r9] M7) fun r14 M12 =>
            rd r3 3 M12 fun a15 =>
            rd (gR M12 192 a15) 0 M12 fun a17 =>
            clR (ex 17 4 [pR (some a17), pI p2, pR r6] M12) fun r18 M16 =>
            some (some (pI 1), M16)
          else
            some (some (pI (-2)), M7) := (rn_un PP [] 75 38 0 _ [] M).trans rfl
set_option maxRecDepth 100000 in
set_option maxHeartbeats 4000000 in
theorem tX11_forget (r0 : Option Nat) (p0 : Int32) (p1 : Int32) (M : Mem) : ex 76 4 [pR r0, pI p0, pI p1] M =
    rd r0 11 M fun a2 =>
    clR (ex 107 2 [pR (some a2), pI p0] M) fun r3 M1 =>
    if r3 = none then
      some (some (pI (-1)), M1)
    else
      rd r3 3 M1 fun a5 =>
      clR (ex 46 3 [pR (some a5), pJ p1.toInt64] M1) fun r6 M4 =>
      if r6 = none then
        some (some (pI (-1)), M4)
      else
        rd r0 11 M4 fun a7 =>
        if gI M4 711 a7 ≤ 0 then
          rd r3 3 M4 fun a8 =>
          rd (gR M4 192 a8) 0 M4 fun a10 =>
          clR (ex 20 4 [pR (some a10), pI p1] M4) fun r11 M9 =>
          rd r3 3 M9 fun a12 =>
          rd (gR M9 192 a12) 0 M9 fun a14 =>
          clI (ex 14 1 [pR (some a14)] M9) fun r15 M13 =>
          some (some (pI r15), M13)
        else
          some (some (pI (-2)), M4) := (rn_un PP [] 76 24 0 _ [] M).trans rfl
set_option maxRecDepth 100000 in
set_option maxHeartbeats 4000000 in
theorem tX11_fails (r0 : Option Nat) (p0 : Int32) (p1 : Int32) (M : Mem) : ex 77 5 [pR r0, pI p0, pI p1] M =
    rd r0 11 M fun a2 =>
    clR (ex 107 2 [pR (some a2), pI p0] M) fun r3 M1 =>
    if r3 = none then
      some (some (pI (-1)), M1)
    else
      rd r0 11 M1 fun a4 =>
      if gI M1 711 a4 ≤ 0 then
        rd r3 3 M1 fun a5 =>
        if gI M1 193 a5 = 0 then
          rd r3 3 M1 fun a6 =>
          zo p1 (bd (sI M1 193 a6 p1) fun M7 =>
          some (some (pI 0), M7))
        else
          rd r3 3 M1 fun a8 =>
          zo p1 (bd (sI M1 193 a8 p1) fun M9 =>
          some (some (pI 1), M9))
      else
        some (some (pI (-2)), M1) := (rn_un PP [] 77 21 0 _ [] M).trans rfl
set_option maxRecDepth 100000 in
set_option maxHeartbeats 4000000 in
theorem tX11_family (r0 : Option Nat) (M : Mem) : ex 78 1 [pR r0] M =
    rd r0 11 M fun a1 =>
    if gI M 711 a1 ≤ 0 then
      rd r0 11 M fun a2 =>
      rd (gR M 706 a2) 0 M fun a4 =>
      clI (ex 14 1 [pR (some a4)] M) fun r5 M3 =>
      if r5 < 3 then
        rd r0 11 M3 fun a6 =>
        bd (nO M3 4 4) fun M7 =>
        rd (some (mT M3)) 4 M7 fun a9 =>
        clV (ex 49 1 [pR (some a9)] M7) fun M8 =>
        rd (gR M3 706 a6) 0 M8 fun a11 =>
        clI (ex 19 2 [pR (some a11), pR (some (mT M3))] M8) fun r12 M10 =>
        rd r0 11 M10 fun a13 =>
        rd (gR M10 706 a13) 0 M10 fun a15 =>
        clI (ex 14 1 [pR (some a15)] M10) fun r16 M14 =>
        some (some (pI (r16 - 1)), M14)
      else
        some (some (pI (-3)), M3)
    else
      some (some (pI (-2)), M) := (rn_un PP [] 78 22 0 _ [] M).trans rfl
set_option maxRecDepth 100000 in
set_option maxHeartbeats 4000000 in
theorem tX11_permit (r0 : Option Nat) (p0 : Int32) (p1 : Int32) (p2 : Int32) (M : Mem) : ex 79 6 [pR r0, pI p0, pI p1, pI p2] M =
    rd r0 11 M fun a2 =>
    clR (ex 109 2 [pR (some a2), pI p0] M) fun r3 M1 =>
    if r3 = none then
      some (some (pI (-1)), M1)
    else
      if p2 < 0 then
        some (some (pI (-1)), M1)
      else
        if p1 = 0 then
          rd r0 11 M1 fun a4 =>
          rd (gR M1 705 a4) 0 M1 fun a6 =>
          clI (ex 14 1 [pR (some a6)] M1) fun r7 M5 =>
          if p2 < r7 then
            if p1 = 0 then
              rd r3 4 M5 fun a9 =>
              clI (ex 50 3 [pR (some a9), pI p2] M5) fun r10 M8 =>
              if r10 = 0 then
                rd r0 11 M8 fun a11 =>
                if gI M8 711 a11 ≤ 0 then
                  rd r3 4 M8 fun a12 =>
                  if gI M8 257 a12 < 4 then
                    rd r3 4 M8 fun a13 =>
                    rd r3 4 M8 fun a14 =>
                    rd r3 4 M8 fun a15 =>
                    bd (sI M8 257 a15 (gI M8 257 a14 + 1)) fun M16 =>
                    ix 20 20 (gR M8 256 a13) (gI M8 257 a14) M16 fun a17 j18 =>
                    bd (wI M16 a17 j18 p2) fun M19 =>
                    rd r0 11 M19 fun a21 =>
                    clV (ex 115 5 [pR (some a21)] M19) fun M20 =>
                    rd r3 4 M20 fun a22 =>
                    some (some (pI (gI M20 257 a22)), M20)
                  else
                    some (some (pI (-3)), M8)
                else
                  some (some (pI (-2)), M8)
              else
                some (some (pI (-1)), M8)
            else
              rd r3 4 M5 fun a24 =>
              clI (ex 50 3 [pR (some a24), pI (10 + p2)] M5) fun r25 M23 =>
              if r25 = 0 then
                rd r0 11 M23 fun a26 =>
                if gI M23 711 a26 ≤ 0 then
                  rd r3 4 M23 fun a27 =>
                  if gI M23 257 a27 < 4 then
                    rd r3 4 M23 fun a28 =>
                    rd r3 4 M23 fun a29 =>
                    rd r3 4 M23 fun a30 =>
                    bd (sI M23 257 a30 (gI M23 257 a29 + 1)) fun M31 =>
                    ix 20 20 (gR M23 256 a28) (gI M23 257 a29) M31 fun a32 j33 =>
                    bd (wI M31 a32 j33 (10 + p2)) fun M34 =>
                    rd r0 11 M34 fun a36 =>
                    clV (ex 115 5 [pR (some a36)] M34) fun M35 =>
                    rd r3 4 M35 fun a37 =>
                    some (some (pI (gI M35 257 a37)), M35)
                  else
                    some (some (pI (-3)), M23)
                else
                  some (some (pI (-2)), M23)
              else
                some (some (pI (-1)), M23)
          else
            some (some (pI (-1)), M5)
        else
          if p2 < p0 then
            if p1 = 0 then
              rd r3 4 M1 fun a39 =>
              clI (ex 50 3 [pR (some a39), pI p2] M1) fun r40 M38 =>
              if r40 = 0 then
                rd r0 11 M38 fun a41 =>
                if gI M38 711 a41 ≤ 0 then
                  rd r3 4 M38 fun a42 =>
                  if gI M38 257 a42 < 4 then
                    rd r3 4 M38 fun a43 =>
                    rd r3 4 M38 fun a44 =>
                    rd r3 4 M38 fun a45 =>
                    bd (sI M38 257 a45 (gI M38 257 a44 + 1)) fun M46 =>
                    ix 20 20 (gR M38 256 a43) (gI M38 257 a44) M46 fun a47 j48 =>
                    bd (wI M46 a47 j48 p2) fun M49 =>
                    rd r0 11 M49 fun a51 =>
                    clV (ex 115 5 [pR (some a51)] M49) fun M50 =>
                    rd r3 4 M50 fun a52 =>
                    some (some (pI (gI M50 257 a52)), M50)
                  else
                    some (some (pI (-3)), M38)
                else
                  some (some (pI (-2)), M38)
              else
                some (some (pI (-1)), M38)
            else
              rd r3 4 M1 fun a54 =>
              clI (ex 50 3 [pR (some a54), pI (10 + p2)] M1) fun r55 M53 =>
              if r55 = 0 then
                rd r0 11 M53 fun a56 =>
                if gI M53 711 a56 ≤ 0 then
                  rd r3 4 M53 fun a57 =>
                  if gI M53 257 a57 < 4 then
                    rd r3 4 M53 fun a58 =>
                    rd r3 4 M53 fun a59 =>
                    rd r3 4 M53 fun a60 =>
                    bd (sI M53 257 a60 (gI M53 257 a59 + 1)) fun M61 =>
                    ix 20 20 (gR M53 256 a58) (gI M53 257 a59) M61 fun a62 j63 =>
                    bd (wI M61 a62 j63 (10 + p2)) fun M64 =>
                    rd r0 11 M64 fun a66 =>
                    clV (ex 115 5 [pR (some a66)] M64) fun M65 =>
                    rd r3 4 M65 fun a67 =>
                    some (some (pI (gI M65 257 a67)), M65)
                  else
                    some (some (pI (-3)), M53)
                else
                  some (some (pI (-2)), M53)
              else
                some (some (pI (-1)), M53)
          else
            some (some (pI (-1)), M1) := (rn_un PP [] 79 50 0 _ [] M).trans rfl
set_option maxRecDepth 100000 in
set_option maxHeartbeats 4000000 in
theorem tX11_record (r0 : Option Nat) (M : Mem) : ex 80 1 [pR r0] M =
    rd r0 11 M fun a1 =>
    if gI M 711 a1 ≤ 0 then
      rd r0 11 M fun a2 =>
      rd (gR M 705 a2) 0 M fun a4 =>
      clI (ex 14 1 [pR (some a4)] M) fun r5 M3 =>
      if r5 < 6 then
        rd r0 11 M3 fun a6 =>
        bd (nO M3 9 3) fun M7 =>
        rd (some (mT M3)) 9 M7 fun a9 =>
        clV (ex 64 1 [pR (some a9)] M7) fun M8 =>
        rd (gR M3 705 a6) 0 M8 fun a11 =>
        clI (ex 19 2 [pR (some a11), pR (some (mT M3))] M8) fun r12 M10 =>
        rd r0 11 M10 fun a13 =>
        rd (gR M10 705 a13) 0 M10 fun a15 =>
        clI (ex 14 1 [pR (some a15)] M10) fun r16 M14 =>
        some (some (pI (r16 - 1)), M14)
      else
        some (some (pI (-3)), M3)
    else
      some (some (pI (-2)), M) := (rn_un PP [] 80 22 0 _ [] M).trans rfl
set_option maxRecDepth 100000 in
set_option maxHeartbeats 4000000 in
theorem tX11_part (r0 : Option Nat) (p0 : Int32) (p1 : Int64) (p2 : Int32) (p3 : Int32) (p4 : Int64) (M : Mem) : ex 81 9 [pR r0, pI p0, pJ p1, pI p2, pI p3, pJ p4] M =
    rd r0 11 M fun a2 =>
    clR (ex 108 2 [pR (some a2), pI p0] M) fun r3 M1 =>
    if r3 = none then
      some (some (pI (-1)), M1)
    else
      clI (ex 30 6 [pJ p1] M1) fun r5 M4 =>
      if r5 = 0 then
        some (some (pI (-1)), M4)
      else
        rd r3 9 M4 fun a7 =>
        clI (ex 66 4 [pR (some a7), pJ p1] M4) fun r8 M6 =>
        if ¬ r8 = 0 then
          some (some (pI (-1)), M6)
        else
          rd r0 11 M6 fun a10 =>
          clI (ex 114 3 [pR (some a10), pI p2, pI p3] M6) fun r11 M9 =>
          if ¬ r11 = 0 then
            rd r0 11 M9 fun a12 =>
            if gI M9 711 a12 ≤ 0 then
              rd r3 9 M9 fun a13 =>
              rd (gR M9 576 a13) 0 M9 fun a15 =>
              clI (ex 14 1 [pR (some a15)] M9) fun r16 M14 =>
              if r16 < 6 then
                rd r3 9 M14 fun a17 =>
                bd (nO M14 8 4) fun M18 =>
                rd (some (mT M14)) 8 M18 fun a20 =>
                clV (ex 63 7 [pR (some a20), pJ p1, pI p2, pI p3, pJ p4] M18) fun M19 =>
                rd (gR M14 576 a17) 0 M19 fun a22 =>
                clI (ex 19 2 [pR (some a22), pR (some (mT M14))] M19) fun r23 M21 =>
                rd r3 9 M21 fun a24 =>
                rd (gR M21 576 a24) 0 M21 fun a26 =>
                clI (ex 14 1 [pR (some a26)] M21) fun r27 M25 =>
                some (some (pI (r27 - 1)), M25)
              else
                some (some (pI (-3)), M14)
            else
              some (some (pI (-2)), M9)
          else
            some (some (pI (-1)), M9) := (rn_un PP [] 81 44 0 _ [] M).trans rfl
set_option maxRecDepth 100000 in
set_option maxHeartbeats 4000000 in
theorem tX11_without (r0 : Option Nat) (p0 : Int32) (p1 : Int32) (M : Mem) : ex 82 4 [pR r0, pI p0, pI p1] M =
    rd r0 11 M fun a2 =>
    clR (ex 108 2 [pR (some a2), pI p0] M) fun r3 M1 =>
    if r3 = none then
      some (some (pI (-1)), M1)
    else
      rd r3 9 M1 fun a5 =>
      clR (ex 65 2 [pR (some a5), pI p1] M1) fun r6 M4 =>
      if r6 = none then
        some (some (pI (-1)), M4)
      else
        rd r0 11 M4 fun a7 =>
        if gI M4 711 a7 ≤ 0 then
          rd r3 9 M4 fun a9 =>
          clV (ex 67 3 [pR (some a9), pI p1] M4) fun M8 =>
          rd r3 9 M8 fun a10 =>
          rd (gR M8 576 a10) 0 M8 fun a12 =>
          clR (ex 20 4 [pR (some a12), pI p1] M8) fun r13 M11 =>
          rd r3 9 M11 fun a15 =>
          clV (ex 68 3 [pR (some a15), pI p1] M11) fun M14 =>
          rd r3 9 M14 fun a16 =>
          rd (gR M14 576 a16) 0 M14 fun a18 =>
          clI (ex 14 1 [pR (some a18)] M14) fun r19 M17 =>
          some (some (pI r19), M17)
        else
          some (some (pI (-2)), M4) := (rn_un PP [] 82 29 0 _ [] M).trans rfl
set_option maxRecDepth 100000 in
set_option maxHeartbeats 4000000 in
theorem tX11_becomes (r0 : Option Nat) (p0 : Int32) (p1 : Int32) (p2 : Int32) (p3 : Int32) (M : Mem) : ex 83 7 [pR r0, pI p0, pI p1, pI p2, pI p3] M =
    rd r0 11 M fun a2 =>
    clR (ex 108 2 [pR (some a2), pI p0] M) fun r3 M1 =>
    if r3 = none then
      some (some (pI (-1)), M1)
    else
      rd r3 9 M1 fun a5 =>
      clR (ex 65 2 [pR (some a5), pI p1] M1) fun r6 M4 =>
      if r6 = none then
        some (some (pI (-1)), M4)
      else
        rd r0 11 M4 fun a8 =>
        clI (ex 114 3 [pR (some a8), pI p2, pI p3] M4) fun r9 M7 =>
        if ¬ r9 = 0 then
          rd r0 11 M7 fun a10 =>
          if gI M7 711 a10 ≤ 0 then
            rd r3 9 M7 fun a12 =>
            clV (ex 67 3 [pR (some a12), pI p1] M7) fun M11 =>
            rd r3 9 M11 fun a13 =>
            bd (nO M11 8 4) fun M14 =>
            rd r6 8 M14 fun a15 =>
            rd (some (mT M11)) 8 M14 fun a17 =>
            clV (ex 63 7 [pR (some a17), pJ (gJ M14 512 a15), pI p2, pI p3, pJ (0 : Int64)] M14) fun M16 =>
            rd (gR M11 576 a13) 0 M16 fun a19 =>
            clR (ex 17 4 [pR (some a19), pI p1, pR (some (mT M11))] M16) fun r20 M18 =>
            rd r6 8 M18 fun a21 =>
            some (some (pI (gI M18 513 a21)), M18)
          else
            some (some (pI (-2)), M7)
        else
          some (some (pI (-1)), M7) := (rn_un PP [] 83 40 0 _ [] M).trans rfl
set_option maxRecDepth 100000 in
set_option maxHeartbeats 4000000 in
theorem tX11_check (r0 : Option Nat) (p0 : Int32) (p1 : Int32) (p2 : Int32) (p3 : Int64) (p4 : Int64) (M : Mem) : ex 84 10 [pR r0, pI p0, pI p1, pI p2, pJ p3, pJ p4] M =
    rd r0 11 M fun a2 =>
    clR (ex 108 2 [pR (some a2), pI p0] M) fun r3 M1 =>
    if r3 = none then
      some (some (pI (-1)), M1)
    else
      if p2 < 0 then
        some (some (pI (-1)), M1)
      else
        al (sR M1 0) M1 fun a4 =>
        if p2 < nI (ln M1 a4) then
          rd r3 9 M1 fun a6 =>
          clR (ex 65 2 [pR (some a6), pI p1] M1) fun r7 M5 =>
          if r7 = none then
            some (some (pI (-1)), M5)
          else
            ix 20 30 (sR M5 0) p2 M5 fun a8 j9 =>
            rd r7 8 M5 fun a10 =>
            if ¬ (((aI M5 a8 j9) >>> (gI M5 513 a10 &&& 31)) &&& 1) = 0 then
              rd r0 11 M5 fun a11 =>
              if gI M5 711 a11 ≤ 0 then
                rd r3 9 M5 fun a12 =>
                rd (gR M5 577 a12) 0 M5 fun a14 =>
                clI (ex 14 1 [pR (some a14)] M5) fun r15 M13 =>
                if r15 < 4 then
                  rd r3 9 M13 fun a16 =>
                  bd (nO M13 1 4) fun M17 =>
                  rd (some (mT M13)) 1 M17 fun a19 =>
                  clV (ex 41 7 [pR (some a19), pI p1, pI p2, pJ p3, pJ p4] M17) fun M18 =>
                  rd (gR M13 577 a16) 0 M18 fun a21 =>
                  clI (ex 19 2 [pR (some a21), pR (some (mT M13))] M18) fun r22 M20 =>
                  rd r3 9 M20 fun a23 =>
                  rd (gR M20 577 a23) 0 M20 fun a25 =>
                  clI (ex 14 1 [pR (some a25)] M20) fun r26 M24 =>
                  some (some (pI r26), M24)
                else
                  some (some (pI (-3)), M13)
              else
                some (some (pI (-2)), M5)
            else
              some (some (pI (-1)), M5)
        else
          some (some (pI (-1)), M1) := (rn_un PP [] 84 51 0 _ [] M).trans rfl
set_option maxRecDepth 100000 in
set_option maxHeartbeats 4000000 in
theorem tX11_build (r0 : Option Nat) (M : Mem) : ex 85 3 [pR r0] M =
    rd r0 11 M fun a1 =>
    if gI M 721 a1 < 1000 then
      rd r0 11 M fun a2 =>
      rd r0 11 M fun a3 =>
      bd (sI M 711 a3 0) fun M4 =>
      rd r0 11 M4 fun a5 =>
      bd (sI M4 712 a5 0) fun M6 =>
      rd r0 11 M6 fun a7 =>
      bd (sI M6 713 a7 0) fun M8 =>
      rd r0 11 M8 fun a9 =>
      bd (sI M8 708 a9 0) fun M10 =>
      rd r0 11 M10 fun a11 =>
      bd (sI M10 709 a11 0) fun M12 =>
      rd r0 11 M12 fun a13 =>
      bd (sI M12 715 a13 0) fun M14 =>
      rn PP 85 50 [some (pR r0), some (pI (gI M 711 a2)), some (pI 0)] [] M14
    else
      some (some (pI (-3)), M) := (rn_un PP [50, 83, 117] 85 29 0 _ [] M).trans rfl
set_option maxRecDepth 100000 in
set_option maxHeartbeats 4000000 in
theorem tX11_build_50 (l0 : Option Nat) (l1 : Int32) (l2 : Int32) (M : Mem) : rn PP 85 50 [some (pR l0), some (pI l1), some (pI l2)] [] M =
    rd l0 11 M fun a1 =>
    rd (gR M 704 a1) 0 M fun a3 =>
    clI (ex 14 1 [pR (some a3)] M) fun r4 M2 =>
    if r4 ≤ l2 then
      rn PP 85 83 [some (pR l0), some (pI l1), some (pI 0)] [] M2
    else
      rd l0 11 M2 fun a5 =>
      rd (gR M2 704 a5) 0 M2 fun a7 =>
      clR (ex 16 2 [pR (some a7), pI l2] M2) fun r8 M6 =>
      ck r8 3 M6
      (rd r8 3 M6 fun a10 =>
      clV (ex 48 1 [pR (some a10)] M6) fun M9 =>
      rn PP 85 50 [some (pR l0), some (pI l1), some (pI (l2 + 1))] [] M9) := (rn_un PP [50, 83, 117] 85 15 50 _ _ M).trans rfl
set_option maxRecDepth 100000 in
set_option maxHeartbeats 4000000 in
theorem tX11_build_83 (l0 : Option Nat) (l1 : Int32) (l2 : Int32) (M : Mem) : rn PP 85 83 [some (pR l0), some (pI l1), some (pI l2)] [] M =
    rd l0 11 M fun a1 =>
    rd (gR M 705 a1) 0 M fun a3 =>
    clI (ex 14 1 [pR (some a3)] M) fun r4 M2 =>
    if r4 ≤ l2 then
      rn PP 85 117 [some (pR l0), some (pI l1), some (pI 0)] [] M2
    else
      rd l0 11 M2 fun a5 =>
      rd (gR M2 705 a5) 0 M2 fun a7 =>
      clR (ex 16 2 [pR (some a7), pI l2] M2) fun r8 M6 =>
      ck r8 9 M6
      (rd r8 9 M6 fun a9 =>
      zo 0 (bd (sI M6 578 a9 0) fun M10 =>
      rn PP 85 83 [some (pR l0), some (pI l1), some (pI (l2 + 1))] [] M10)) := (rn_un PP [50, 83, 117] 85 16 83 _ _ M).trans rfl
set_option maxRecDepth 100000 in
set_option maxHeartbeats 4000000 in
theorem tX11_build_117 (l0 : Option Nat) (l1 : Int32) (l2 : Int32) (M : Mem) : rn PP 85 117 [some (pR l0), some (pI l1), some (pI l2)] [] M =
    rd l0 11 M fun a1 =>
    rd (gR M 719 a1) 0 M fun a3 =>
    clI (ex 14 1 [pR (some a3)] M) fun r4 M2 =>
    if r4 ≤ l2 then
      rd l0 11 M2 fun a5 =>
      rd l0 11 M2 fun a6 =>
      bd (sI M2 721 a6 (gI M2 721 a5 + 1)) fun M7 =>
      some (some (pI l1), M7)
    else
      rd l0 11 M2 fun a8 =>
      rd (gR M2 719 a8) 0 M2 fun a10 =>
      clR (ex 16 2 [pR (some a10), pI l2] M2) fun r11 M9 =>
      ck r11 6 M9
      (rd r11 6 M9 fun a13 =>
      clV (ex 61 2 [pR (some a13)] M9) fun M12 =>
      rn PP 85 117 [some (pR l0), some (pI l1), some (pI (l2 + 1))] [] M12) := (rn_un PP [50, 83, 117] 85 15 117 _ _ M).trans rfl
set_option maxRecDepth 100000 in
set_option maxHeartbeats 4000000 in
theorem tX11_row (r0 : Option Nat) (p0 : Int32) (p1 : Int32) (M : Mem) : ex 86 3 [pR r0, pI p0, pI p1] M =
    if p0 < 0 then
      some (some (pI (-1)), M)
    else
      if 7 < p0 then
        some (some (pI (-1)), M)
      else
        if p1 ≤ 16 then
          rd r0 11 M fun a1 =>
          if gI M 709 a1 < 40 then
            if 0 ≤ p1 then
              rd r0 11 M fun a2 =>
              rd r0 11 M fun a3 =>
              bd (sI M 709 a3 (gI M 709 a2 + 1)) fun M4 =>
              rd r0 11 M4 fun a6 =>
              clI (ex 120 3 [pR (some a6), pI p0, pI p1] M4) fun r7 M5 =>
              some (some (pI r7), M5)
            else
              clI (ex 113 1 [pI 4] M) fun r9 M8 =>
              some (some (pI r9), M8)
          else
            some (some (pI (-3)), M)
        else
          some (some (pI (-1)), M) := (rn_un PP [] 86 26 0 _ [] M).trans rfl
set_option maxRecDepth 100000 in
set_option maxHeartbeats 4000000 in
theorem tX11_put (r0 : Option Nat) (p0 : Int32) (p1 : Int32) (p2 : Int64) (M : Mem) : ex 87 6 [pR r0, pI p0, pI p1, pJ p2] M =
    rd r0 11 M fun a2 =>
    clR (ex 110 3 [pR (some a2), pJ p0.toInt64] M) fun r3 M1 =>
    if r3 = none then
      some (some (pI (-1)), M1)
    else
      rd r3 10 M1 fun a5 =>
      clI (ex 71 3 [pR (some a5), pJ p1.toInt64] M1) fun r6 M4 =>
      if ¬ r6 = 0 then
        rd r3 10 M4 fun a7 =>
        rd r3 10 M4 fun a8 =>
        clJ (ex 31 3 [pI (gI M4 640 a8), pJ p2] M4) fun r10 M9 =>
        ix 21 21 (gR M4 642 a7) p1 M9 fun a11 j12 =>
        bd (wJ M9 a11 j12 r10) fun M13 =>
        some (some (pI 1), M13)
      else
        clI (ex 113 1 [pI 5] M4) fun r15 M14 =>
        some (some (pI r15), M14) := (rn_un PP [] 87 23 0 _ [] M).trans rfl
set_option maxRecDepth 100000 in
set_option maxHeartbeats 4000000 in
theorem tX11_item (r0 : Option Nat) (p0 : Int32) (p1 : Int32) (M : Mem) : ex 88 4 [pR r0, pI p0, pI p1] M =
    rd r0 11 M fun a2 =>
    clR (ex 110 3 [pR (some a2), pJ p0.toInt64] M) fun r3 M1 =>
    if r3 = none then
      some (some (pJ (0 : Int64)), M1)
    else
      rd r3 10 M1 fun a5 =>
      clI (ex 71 3 [pR (some a5), pJ p1.toInt64] M1) fun r6 M4 =>
      if r6 = 0 then
        some (some (pJ (0 : Int64)), M4)
      else
        rd r3 10 M4 fun a7 =>
        ix 21 21 (gR M4 642 a7) p1 M4 fun a8 j9 =>
        some (some (pJ (aJ M4 a8 j9)), M4) := (rn_un PP [] 88 19 0 _ [] M).trans rfl
set_option maxRecDepth 100000 in
set_option maxHeartbeats 4000000 in
theorem tX11_size (r0 : Option Nat) (p0 : Int32) (M : Mem) : ex 89 3 [pR r0, pI p0] M =
    rd r0 11 M fun a2 =>
    clR (ex 110 3 [pR (some a2), pJ p0.toInt64] M) fun r3 M1 =>
    if r3 = none then
      some (some (pI (-1)), M1)
    else
      rd r3 10 M1 fun a4 =>
      some (some (pI (gI M1 641 a4)), M1) := (rn_un PP [] 89 11 0 _ [] M).trans rfl
set_option maxRecDepth 100000 in
set_option maxHeartbeats 4000000 in
theorem tX11_give (r0 : Option Nat) (p0 : Int32) (p1 : Int64) (M : Mem) : ex 90 4 [pR r0, pI p0, pJ p1] M =
    if p0 < 0 then
      some (some (pI (-1)), M)
    else
      if p0 < 6 then
        rd r0 11 M fun a1 =>
        ix 21 21 (gR M 716 a1) p0 M fun a2 j3 =>
        bd (wJ M a2 j3 p1) fun M4 =>
        some (some (pI 1), M4)
      else
        some (some (pI (-1)), M) := (rn_un PP [] 90 13 0 _ [] M).trans rfl
set_option maxRecDepth 100000 in
set_option maxHeartbeats 4000000 in
theorem tX11_make (r0 : Option Nat) (p0 : Int32) (M : Mem) : ex 91 4 [pR r0, pI p0] M =
    rd r0 11 M fun a2 =>
    clR (ex 108 2 [pR (some a2), pI p0] M) fun r3 M1 =>
    if r3 = none then
      some (some (pI (-1)), M1)
    else
      rd r0 11 M1 fun a5 =>
      clI (ex 121 3 [pR (some a5), pR r3] M1) fun r6 M4 =>
      if ¬ r6 = 0 then
        rd r0 11 M4 fun a7 =>
        if gI M4 712 a7 < 100 then
          rn PP 91 34 [some (pR r0), some (pI p0), some (pR r3), some (pI 0)] [] M4
        else
          some (some (pI (-3)), M4)
      else
        some (some (pI (-1)), M4) := (rn_un PP [34] 91 18 0 _ [] M).trans rfl
set_option maxRecDepth 100000 in
set_option maxHeartbeats 4000000 in
theorem tX11_make_34 (l0 : Option Nat) (l1 : Int32) (l2 : Option Nat) (l3 : Int32) (M : Mem) : rn PP 91 34 [some (pR l0), some (pI l1), some (pR l2), some (pI l3)] [] M =
    rd l2 9 M fun a1 =>
    rd (gR M 576 a1) 0 M fun a3 =>
    clI (ex 14 1 [pR (some a3)] M) fun r4 M2 =>
    if r4 ≤ l3 then
      rd l0 11 M2 fun a5 =>
      rd l0 11 M2 fun a7 =>
      clI (ex 126 9 [pR (some a7), pI l1, pR (gR M2 717 a5), pI (-1)] M2) fun r8 M6 =>
      if r8 < 0 then
        some (some (pI r8), M6)
      else
        rd l0 11 M6 fun a9 =>
        rd l0 11 M6 fun a10 =>
        bd (sI M6 712 a10 (gI M6 712 a9 + 1)) fun M11 =>
        some (some (pI r8), M11)
    else
      rd l0 11 M2 fun a12 =>
      rd l2 9 M2 fun a13 =>
      rd (gR M2 576 a13) 0 M2 fun a15 =>
      clR (ex 16 2 [pR (some a15), pI l3] M2) fun r16 M14 =>
      ck r16 8 M14
      (rd r16 8 M14 fun a17 =>
      rd l0 11 M14 fun a18 =>
      ix 21 21 (gR M14 716 a18) l3 M14 fun a19 j20 =>
      clJ (ex 31 3 [pI (gI M14 513 a17), pJ (aJ M14 a19 j20)] M14) fun r22 M21 =>
      ix 21 21 (gR M2 717 a12) l3 M21 fun a23 j24 =>
      bd (wJ M21 a23 j24 r22) fun M25 =>
      rn PP 91 34 [some (pR l0), some (pI l1), some (pR l2), some (pI (l3 + 1))] [] M25) := (rn_un PP [34] 91 24 34 _ _ M).trans rfl
set_option maxRecDepth 100000 in
set_option maxHeartbeats 4000000 in
theorem tX11_cause (r0 : Option Nat) (p0 : Int32) (M : Mem) : ex 92 2 [pR r0, pI p0] M =
    if p0 < 0 then
      some (some (pI (-2147483648)), M)
    else
      rd r0 11 M fun a1 =>
      al (gR M 718 a1) M fun a2 =>
      if nI (ln M a2) ≤ p0 then
        some (some (pI (-2147483648)), M)
      else
        rd r0 11 M fun a3 =>
        ix 20 30 (gR M 718 a3) p0 M fun a4 j5 =>
        some (some (pI (aI M a4 j5)), M) := (rn_un PP [] 92 14 0 _ [] M).trans rfl
set_option maxRecDepth 100000 in
set_option maxHeartbeats 4000000 in
theorem tX11_told (r0 : Option Nat) (p0 : Int32) (p1 : Int32) (M : Mem) : ex 93 5 [pR r0, pI p0, pI p1] M =
    rd r0 11 M fun a2 =>
    clR (ex 111 3 [pR (some a2), pJ p0.toInt64] M) fun r3 M1 =>
    if r3 = none then
      some (some (pJ (-9223372036854775808 : Int64)), M1)
    else
      rd r3 7 M1 fun a4 =>
      rd r0 11 M1 fun a6 =>
      clR (ex 108 2 [pR (some a6), pI (gI M1 448 a4)] M1) fun r7 M5 =>
      if r7 = none then
        some (some (pJ (-9223372036854775808 : Int64)), M5)
      else
        rd r7 9 M5 fun a9 =>
        clR (ex 65 2 [pR (some a9), pI p1] M5) fun r10 M8 =>
        if r10 = none then
          some (some (pJ (-9223372036854775808 : Int64)), M8)
        else
          rd r3 7 M8 fun a11 =>
          ix 21 21 (gR M8 449 a11) p1 M8 fun a12 j13 =>
          some (some (pJ (aJ M8 a12 j13)), M8) := (rn_un PP [] 93 25 0 _ [] M).trans rfl
set_option maxRecDepth 100000 in
set_option maxHeartbeats 4000000 in
theorem tX11_of (r0 : Option Nat) (p0 : Int32) (M : Mem) : ex 94 3 [pR r0, pI p0] M =
    rd r0 11 M fun a2 =>
    clR (ex 111 3 [pR (some a2), pJ p0.toInt64] M) fun r3 M1 =>
    if r3 = none then
      some (some (pI (-1)), M1)
    else
      rd r3 7 M1 fun a4 =>
      some (some (pI (gI M1 448 a4)), M1) := (rn_un PP [] 94 11 0 _ [] M).trans rfl
set_option maxRecDepth 100000 in
set_option maxHeartbeats 4000000 in
theorem tX11_tag (r0 : Option Nat) (p0 : Int32) (p1 : Int32) (M : Mem) : ex 95 5 [pR r0, pI p0, pI p1] M =
    rd r0 11 M fun a2 =>
    clR (ex 111 3 [pR (some a2), pJ p0.toInt64] M) fun r3 M1 =>
    rd r0 11 M1 fun a5 =>
    clR (ex 109 2 [pR (some a5), pI p1] M1) fun r6 M4 =>
    if r3 = none then
      some (some (pI (-1)), M4)
    else
      if r6 = none then
        some (some (pI (-1)), M4)
      else
        rd r3 7 M4 fun a7 =>
        rd r6 4 M4 fun a9 =>
        clI (ex 51 3 [pR (some a9), pI (gI M4 448 a7)] M4) fun r10 M8 =>
        some (some (pI r10), M8) := (rn_un PP [] 95 19 0 _ [] M).trans rfl
set_option maxRecDepth 100000 in
set_option maxHeartbeats 4000000 in
theorem tX11_same (r0 : Option Nat) (p0 : Int32) (p1 : Int32) (M : Mem) : ex 96 5 [pR r0, pI p0, pI p1] M =
    rd r0 11 M fun a2 =>
    clR (ex 111 3 [pR (some a2), pJ p0.toInt64] M) fun r3 M1 =>
    rd r0 11 M1 fun a5 =>
    clR (ex 111 3 [pR (some a5), pJ p1.toInt64] M1) fun r6 M4 =>
    if r3 = none then
      some (some (pI (-1)), M4)
    else
      if r6 = none then
        some (some (pI (-1)), M4)
      else
        rd r0 11 M4 fun a8 =>
        clV (ex 133 2 [pR (some a8)] M4) fun M7 =>
        rd r3 7 M7 fun a9 =>
        rd r6 7 M7 fun a10 =>
        if ¬ gI M7 450 a9 = gI M7 450 a10 then
          some (some (pI 0), M7)
        else
          some (some (pI 1), M7) := (rn_un PP [] 96 25 0 _ [] M).trans rfl
set_option maxRecDepth 100000 in
set_option maxHeartbeats 4000000 in
theorem tX11_named (r0 : Option Nat) (p0 : Int32) (p1 : Int64) (M : Mem) : ex 97 7 [pR r0, pI p0, pJ p1] M =
    rd r0 11 M fun a2 =>
    clR (ex 107 2 [pR (some a2), pI p0] M) fun r3 M1 =>
    if r3 = none then
      some (some (pI (-1)), M1)
    else
      rd r0 11 M1 fun a5 =>
      clI (ex 117 3 [pR (some a5), pI p0] M1) fun r6 M4 =>
      if r6 = 0 then
        rd r3 3 M4 fun a8 =>
        clI (ex 47 4 [pR (some a8), pJ p1] M4) fun r9 M7 =>
        if ¬ r9 = (-1) then
          some (some (pI r9), M7)
        else
          clI (ex 113 1 [pI 8] M7) fun r11 M10 =>
          some (some (pI r11), M10)
      else
        clI (ex 113 1 [pI r6] M4) fun r13 M12 =>
        some (some (pI r13), M12) := (rn_un PP [] 97 24 0 _ [] M).trans rfl
set_option maxRecDepth 100000 in
set_option maxHeartbeats 4000000 in
theorem tX11_work (r0 : Option Nat) (p0 : Int32) (p1 : Int32) (p2 : Int32) (p3 : Int32) (M : Mem) : ex 98 8 [pR r0, pI p0, pI p1, pI p2, pI p3] M =
    rd r0 11 M fun a2 =>
    clR (ex 107 2 [pR (some a2), pI p0] M) fun r3 M1 =>
    if r3 = none then
      some (some (pJ (-9223372036854775808 : Int64)), M1)
    else
      if p2 < 0 then
        some (some (pJ (-9223372036854775808 : Int64)), M1)
      else
        if p2 ≤ 2 then
          rd r3 3 M1 fun a5 =>
          clR (ex 46 3 [pR (some a5), pJ p1.toInt64] M1) fun r6 M4 =>
          if r6 = none then
            some (some (pJ (-9223372036854775808 : Int64)), M4)
          else
            rd r0 11 M4 fun a8 =>
            clI (ex 117 3 [pR (some a8), pI p0] M4) fun r9 M7 =>
            if r9 = 0 then
              if ¬ p2 = 0 then
                if ¬ p2 = 1 then
                  some (some (pJ ((p3 + p1).toInt64)), M7)
                else
                  rd r6 2 M7 fun a11 =>
                  clI (ex 44 4 [pR (some a11), pI p1, pI p3] M7) fun r12 M10 =>
                  some (some (pJ r12.toInt64), M10)
              else
                rd r6 2 M7 fun a14 =>
                clI (ex 43 3 [pR (some a14), pI p1, pI p3] M7) fun r15 M13 =>
                some (some (pJ r15.toInt64), M13)
            else
              some (some (pJ ((-9223372036854775808 : Int64) + r9.toInt64)), M7)
        else
          some (some (pJ (-9223372036854775808 : Int64)), M1) := (rn_un PP [] 98 37 0 _ [] M).trans rfl
set_option maxRecDepth 100000 in
set_option maxHeartbeats 4000000 in
theorem tX11_started (r0 : Option Nat) (p0 : Int32) (M : Mem) : ex 99 2 [pR r0, pI p0] M =
    if p0 < 0 then
      some (some (pI (-1)), M)
    else
      rd r0 11 M fun a1 =>
      if gI M 715 a1 ≤ p0 then
        some (some (pI (-1)), M)
      else
        rd r0 11 M fun a2 =>
        ix 20 30 (gR M 714 a2) p0 M fun a3 j4 =>
        some (some (pI (aI M a3 j4)), M) := (rn_un PP [] 99 13 0 _ [] M).trans rfl
set_option maxRecDepth 100000 in
set_option maxHeartbeats 4000000 in
theorem tX11_keep (r0 : Option Nat) (p0 : Int32) (M : Mem) : ex 100 3 [pR r0, pI p0] M =
    rd r0 11 M fun a2 =>
    clR (ex 111 3 [pR (some a2), pJ p0.toInt64] M) fun r3 M1 =>
    if r3 = none then
      some (some (pI (-1)), M1)
    else
      rd r0 11 M1 fun a4 =>
      rd (gR M1 719 a4) 0 M1 fun a6 =>
      clI (ex 14 1 [pR (some a6)] M1) fun r7 M5 =>
      rd r0 11 M5 fun a9 =>
      clI (ex 137 5 [pR (some a9), pI p0] M5) fun r10 M8 =>
      if (r7 + r10) ≤ 64 then
        rd r3 7 M8 fun a11 =>
        if ¬ gI M8 451 a11 = (-1) then
          rd r3 7 M8 fun a12 =>
          some (some (pI (gI M8 451 a12)), M8)
        else
          rd r0 11 M8 fun a14 =>
          clV (ex 139 6 [pR (some a14), pI p0] M8) fun M13 =>
          rd r3 7 M13 fun a15 =>
          some (some (pI (gI M13 451 a15)), M13)
      else
        some (some (pI (-3)), M8) := (rn_un PP [] 100 27 0 _ [] M).trans rfl
set_option maxRecDepth 100000 in
set_option maxHeartbeats 4000000 in
theorem tX11_load (r0 : Option Nat) (p0 : Int32) (M : Mem) : ex 101 3 [pR r0, pI p0] M =
    rd r0 11 M fun a2 =>
    clR (ex 112 3 [pR (some a2), pJ p0.toInt64] M) fun r3 M1 =>
    if r3 = none then
      some (some (pI (-1)), M1)
    else
      rd r3 6 M1 fun a4 =>
      if gI M1 389 a4 = (-1) then
        rd r0 11 M1 fun a6 =>
        clI (ex 146 11 [pR (some a6), pI p0] M1) fun r7 M5 =>
        some (some (pI r7), M5)
      else
        rd r3 6 M1 fun a8 =>
        some (some (pI (gI M1 389 a8)), M1) := (rn_un PP [] 101 16 0 _ [] M).trans rfl
set_option maxRecDepth 100000 in
set_option maxHeartbeats 4000000 in
theorem tX11_line (r0 : Option Nat) (p0 : Int32) (p1 : Int32) (M : Mem) : ex 102 4 [pR r0, pI p0, pI p1] M =
    rd r0 11 M fun a2 =>
    clR (ex 112 3 [pR (some a2), pJ p0.toInt64] M) fun r3 M1 =>
    if r3 = none then
      some (some (pI (-1)), M1)
    else
      if p1 = Int32.ofInt (0) then
        rd r3 6 M1 fun a4 =>
        some (some (pI (gI M1 384 a4)), M1)
      else if p1 = Int32.ofInt (1) then
        rd r3 6 M1 fun a5 =>
        some (some (pI (gI M1 385 a5)), M1)
      else if p1 = Int32.ofInt (2) then
        rd r3 6 M1 fun a6 =>
        al (gR M1 386 a6) M1 fun a7 =>
        some (some (pI (nI (ln M1 a7))), M1)
      else if p1 = Int32.ofInt (3) then
        rd r3 6 M1 fun a8 =>
        some (some (pI (gI M1 389 a8)), M1)
      else 
        some (some (pI (-1)), M1) := (rn_un PP [] 102 14 0 _ [] M).trans rfl
set_option maxRecDepth 100000 in
set_option maxHeartbeats 4000000 in
theorem tX11_word (r0 : Option Nat) (p0 : Int64) (p1 : Int64) (p2 : Int32) (M : Mem) : ex 103 8 [pR r0, pJ p0, pJ p1, pI p2] M =
    rn PP 103 3 [some (pR r0), some (pJ p0), none, some (pJ p1), none, some (pI p2), some (pI 0), none] [] M := (rn_un PP [3] 103 4 0 _ [] M).trans rfl
set_option maxRecDepth 100000 in
set_option maxHeartbeats 4000000 in
theorem tX11_word_3 (l0 : Option Nat) (l1 : Int64) (l3 : Int64) (l5 : Int32) (l6 : Int32) (M : Mem) : rn PP 103 3 [some (pR l0), some (pJ l1), none, some (pJ l3), none, some (pI l5), some (pI l6), none] [] M =
    rd l0 11 M fun a1 =>
    rd (gR M 719 a1) 0 M fun a3 =>
    clI (ex 14 1 [pR (some a3)] M) fun r4 M2 =>
    if r4 ≤ l6 then
      rd l0 11 M2 fun a6 =>
      clI (ex 155 4 [pR (some a6), pI l5] M2) fun r7 M5 =>
      some (some (pI r7), M5)
    else
      rd l0 11 M2 fun a8 =>
      rd (gR M2 719 a8) 0 M2 fun a10 =>
      clR (ex 16 2 [pR (some a10), pI l6] M2) fun r11 M9 =>
      ck r11 6 M9
      (rd r11 6 M9 fun a13 =>
      clR (ex 60 4 [pR (some a13), pJ l1] M9) fun r14 M12 =>
      rd l0 11 M12 fun a15 =>
      rd (gR M12 719 a15) 0 M12 fun a17 =>
      clR (ex 16 2 [pR (some a17), pI l6] M12) fun r18 M16 =>
      ck r18 6 M16
      (if r14 = none then
        rd r18 6 M16 fun a19 =>
        zo 0 (bd (sI M16 390 a19 0) fun M20 =>
        rn PP 103 3 [some (pR l0), some (pJ l1), none, some (pJ l3), none, some (pI l5), some (pI (l6 + 1)), none] [] M20)
      else
        rd r14 5 M16 fun a22 =>
        clI (ex 56 4 [pR (some a22), pJ l3] M16) fun r23 M21 =>
        if r23 = 0 then
          rd r18 6 M21 fun a24 =>
          zo 0 (bd (sI M21 390 a24 0) fun M25 =>
          rn PP 103 3 [some (pR l0), some (pJ l1), none, some (pJ l3), none, some (pI l5), some (pI (l6 + 1)), none] [] M25)
        else
          rd r18 6 M21 fun a26 =>
          zo 1 (bd (sI M21 390 a26 1) fun M27 =>
          rn PP 103 3 [some (pR l0), some (pJ l1), none, some (pJ l3), none, some (pI l5), some (pI (l6 + 1)), none] [] M27))) := (rn_un PP [3] 103 31 3 _ _ M).trans rfl
set_option maxRecDepth 100000 in
set_option maxHeartbeats 4000000 in
theorem tX11_range (r0 : Option Nat) (p0 : Int64) (p1 : Int32) (p2 : Int32) (p3 : Int32) (p4 : Int32) (M : Mem) : ex 104 10 [pR r0, pJ p0, pI p1, pI p2, pI p3, pI p4] M =
    rd r0 11 M fun a2 =>
    clR (ex 107 2 [pR (some a2), pI p1] M) fun r3 M1 =>
    if r3 = none then
      some (some (pI (-1)), M1)
    else
      rn PP 104 17 [some (pR r0), some (pJ p0), none, some (pI p1), some (pI p2), some (pI p3), some (pI p4), some (pR r3), some (pI 0), none] [] M1 := (rn_un PP [17] 104 10 0 _ [] M).trans rfl
set_option maxRecDepth 100000 in
set_option maxHeartbeats 4000000 in
theorem tX11_range_17 (l0 : Option Nat) (l1 : Int64) (l3 : Int32) (l4 : Int32) (l5 : Int32) (l6 : Int32) (l7 : Option Nat) (l8 : Int32) (M : Mem) : rn PP 104 17 [some (pR l0), some (pJ l1), none, some (pI l3), some (pI l4), some (pI l5), some (pI l6), some (pR l7), some (pI l8), none] [] M =
    rd l0 11 M fun a1 =>
    rd (gR M 719 a1) 0 M fun a3 =>
    clI (ex 14 1 [pR (some a3)] M) fun r4 M2 =>
    if r4 ≤ l8 then
      rd l0 11 M2 fun a6 =>
      clI (ex 155 4 [pR (some a6), pI l6] M2) fun r7 M5 =>
      some (some (pI r7), M5)
    else
      rd l0 11 M2 fun a8 =>
      rd (gR M2 719 a8) 0 M2 fun a10 =>
      clR (ex 16 2 [pR (some a10), pI l8] M2) fun r11 M9 =>
      ck r11 6 M9
      (rd r11 6 M9 fun a13 =>
      clR (ex 60 4 [pR (some a13), pJ l1] M9) fun r14 M12 =>
      rd l0 11 M12 fun a15 =>
      rd (gR M12 719 a15) 0 M12 fun a17 =>
      clR (ex 16 2 [pR (some a17), pI l8] M12) fun r18 M16 =>
      ck r18 6 M16
      (if r14 = none then
        rd r18 6 M16 fun a19 =>
        zo 0 (bd (sI M16 390 a19 0) fun M20 =>
        rn PP 104 17 [some (pR l0), some (pJ l1), none, some (pI l3), some (pI l4), some (pI l5), some (pI l6), some (pR l7), some (pI (l8 + 1)), none] [] M20)
      else
        rd r14 5 M16 fun a21 =>
        if ¬ gI M16 322 a21 = l3 then
          rd r18 6 M16 fun a22 =>
          zo 0 (bd (sI M16 390 a22 0) fun M23 =>
          rn PP 104 17 [some (pR l0), some (pJ l1), none, some (pI l3), some (pI l4), some (pI l5), some (pI l6), some (pR l7), some (pI (l8 + 1)), none] [] M23)
        else
          rd r14 5 M16 fun a25 =>
          clI (ex 57 6 [pR (some a25), pR l7, pI l4, pI l5] M16) fun r26 M24 =>
          if r26 = 0 then
            rd r18 6 M24 fun a27 =>
            zo 0 (bd (sI M24 390 a27 0) fun M28 =>
            rn PP 104 17 [some (pR l0), some (pJ l1), none, some (pI l3), some (pI l4), some (pI l5), some (pI l6), some (pR l7), some (pI (l8 + 1)), none] [] M28)
          else
            rd r18 6 M24 fun a29 =>
            zo 1 (bd (sI M24 390 a29 1) fun M30 =>
            rn PP 104 17 [some (pR l0), some (pJ l1), none, some (pI l3), some (pI l4), some (pI l5), some (pI l6), some (pR l7), some (pI (l8 + 1)), none] [] M30))) := (rn_un PP [17] 104 37 17 _ _ M).trans rfl
set_option maxRecDepth 100000 in
set_option maxHeartbeats 4000000 in
theorem tX11_count (r0 : Option Nat) (p0 : Int32) (M : Mem) : ex 105 2 [pR r0, pI p0] M =
    if p0 = Int32.ofInt (0) then
      rd r0 11 M fun a1 =>
      rd (gR M 704 a1) 0 M fun a3 =>
      clI (ex 14 1 [pR (some a3)] M) fun r4 M2 =>
      some (some (pI r4), M2)
    else if p0 = Int32.ofInt (1) then
      rd r0 11 M fun a5 =>
      rd (gR M 705 a5) 0 M fun a7 =>
      clI (ex 14 1 [pR (some a7)] M) fun r8 M6 =>
      some (some (pI r8), M6)
    else if p0 = Int32.ofInt (2) then
      rd r0 11 M fun a9 =>
      rd (gR M 706 a9) 0 M fun a11 =>
      clI (ex 14 1 [pR (some a11)] M) fun r12 M10 =>
      some (some (pI r12), M10)
    else if p0 = Int32.ofInt (3) then
      rd r0 11 M fun a13 =>
      some (some (pI (gI M 708 a13)), M)
    else if p0 = Int32.ofInt (4) then
      rd r0 11 M fun a14 =>
      some (some (pI (gI M 711 a14)), M)
    else if p0 = Int32.ofInt (5) then
      rd r0 11 M fun a15 =>
      rd (gR M 719 a15) 0 M fun a17 =>
      clI (ex 14 1 [pR (some a17)] M) fun r18 M16 =>
      some (some (pI r18), M16)
    else if p0 = Int32.ofInt (6) then
      rd r0 11 M fun a19 =>
      some (some (pI (gI M 721 a19)), M)
    else if p0 = Int32.ofInt (7) then
      rd r0 11 M fun a20 =>
      some (some (pI (gI M 722 a20)), M)
    else 
      some (some (pI (-1)), M) := (rn_un PP [] 105 7 0 _ [] M).trans rfl
set_option maxRecDepth 100000 in
set_option maxHeartbeats 4000000 in
theorem tX11_about (r0 : Option Nat) (p0 : Int32) (p1 : Int32) (M : Mem) : ex 106 4 [pR r0, pI p0, pI p1] M =
    if ¬ p1 = 0 then
      if p1 = 1 then
        rd r0 11 M fun a2 =>
        clR (ex 108 2 [pR (some a2), pI p0] M) fun r3 M1 =>
        if r3 = none then
          some (some (pI (-1)), M1)
        else
          if ¬ p1 = 1 then
            rd r3 9 M1 fun a4 =>
            rd (gR M1 577 a4) 0 M1 fun a6 =>
            clI (ex 14 1 [pR (some a6)] M1) fun r7 M5 =>
            some (some (pI r7), M5)
          else
            rd r3 9 M1 fun a8 =>
            rd (gR M1 576 a8) 0 M1 fun a10 =>
            clI (ex 14 1 [pR (some a10)] M1) fun r11 M9 =>
            some (some (pI r11), M9)
      else
        if ¬ p1 = 2 then
          if p1 = 3 then
            rd r0 11 M fun a13 =>
            clR (ex 109 2 [pR (some a13), pI p0] M) fun r14 M12 =>
            if r14 = none then
              some (some (pI (-1)), M12)
            else
              if ¬ p1 = 3 then
                rd r14 4 M12 fun a15 =>
                some (some (pI (gI M12 259 a15)), M12)
              else
                rd r14 4 M12 fun a16 =>
                some (some (pI (gI M12 257 a16)), M12)
          else
            if ¬ p1 = 4 then
              if (none : Option Nat) = none then
                some (some (pI (-1)), M)
              else
                if ¬ p1 = 3 then
                  rd (none : Option Nat) 4 M fun a17 =>
                  some (some (pI (gI M 259 a17)), M)
                else
                  rd (none : Option Nat) 4 M fun a18 =>
                  some (some (pI (gI M 257 a18)), M)
            else
              rd r0 11 M fun a20 =>
              clR (ex 109 2 [pR (some a20), pI p0] M) fun r21 M19 =>
              if r21 = none then
                some (some (pI (-1)), M19)
              else
                if ¬ p1 = 3 then
                  rd r21 4 M19 fun a22 =>
                  some (some (pI (gI M19 259 a22)), M19)
                else
                  rd r21 4 M19 fun a23 =>
                  some (some (pI (gI M19 257 a23)), M19)
        else
          rd r0 11 M fun a25 =>
          clR (ex 108 2 [pR (some a25), pI p0] M) fun r26 M24 =>
          if r26 = none then
            some (some (pI (-1)), M24)
          else
            if ¬ p1 = 1 then
              rd r26 9 M24 fun a27 =>
              rd (gR M24 577 a27) 0 M24 fun a29 =>
              clI (ex 14 1 [pR (some a29)] M24) fun r30 M28 =>
              some (some (pI r30), M28)
            else
              rd r26 9 M24 fun a31 =>
              rd (gR M24 576 a31) 0 M24 fun a33 =>
              clI (ex 14 1 [pR (some a33)] M24) fun r34 M32 =>
              some (some (pI r34), M32)
    else
      rd r0 11 M fun a36 =>
      clR (ex 107 2 [pR (some a36), pI p0] M) fun r37 M35 =>
      if r37 = none then
        some (some (pI (-1)), M35)
      else
        rd r37 3 M35 fun a38 =>
        rd (gR M35 192 a38) 0 M35 fun a40 =>
        clI (ex 14 1 [pR (some a40)] M35) fun r41 M39 =>
        some (some (pI r41), M39) := (rn_un PP [] 106 29 0 _ [] M).trans rfl
set_option maxRecDepth 100000 in
set_option maxHeartbeats 4000000 in
theorem tX11_enumerationAt (r0 : Option Nat) (p0 : Int32) (M : Mem) : ex 107 2 [pR r0, pI p0] M =
    if p0 < 0 then
      some (some (pR (none : Option Nat)), M)
    else
      rd r0 11 M fun a1 =>
      rd (gR M 704 a1) 0 M fun a3 =>
      clI (ex 14 1 [pR (some a3)] M) fun r4 M2 =>
      if r4 ≤ p0 then
        some (some (pR (none : Option Nat)), M2)
      else
        rd r0 11 M2 fun a5 =>
        rd (gR M2 704 a5) 0 M2 fun a7 =>
        clR (ex 16 2 [pR (some a7), pI p0] M2) fun r8 M6 =>
        ck r8 3 M6
        (some (some (pR r8), M6)) := (rn_un PP [] 107 15 0 _ [] M).trans rfl
set_option maxRecDepth 100000 in
set_option maxHeartbeats 4000000 in
theorem tX11_recordAt (r0 : Option Nat) (p0 : Int32) (M : Mem) : ex 108 2 [pR r0, pI p0] M =
    if p0 < 0 then
      some (some (pR (none : Option Nat)), M)
    else
      rd r0 11 M fun a1 =>
      rd (gR M 705 a1) 0 M fun a3 =>
      clI (ex 14 1 [pR (some a3)] M) fun r4 M2 =>
      if r4 ≤ p0 then
        some (some (pR (none : Option Nat)), M2)
      else
        rd r0 11 M2 fun a5 =>
        rd (gR M2 705 a5) 0 M2 fun a7 =>
        clR (ex 16 2 [pR (some a7), pI p0] M2) fun r8 M6 =>
        ck r8 9 M6
        (some (some (pR r8), M6)) := (rn_un PP [] 108 15 0 _ [] M).trans rfl
set_option maxRecDepth 100000 in
set_option maxHeartbeats 4000000 in
theorem tX11_familyAt (r0 : Option Nat) (p0 : Int32) (M : Mem) : ex 109 2 [pR r0, pI p0] M =
    if p0 < 0 then
      some (some (pR (none : Option Nat)), M)
    else
      rd r0 11 M fun a1 =>
      rd (gR M 706 a1) 0 M fun a3 =>
      clI (ex 14 1 [pR (some a3)] M) fun r4 M2 =>
      if r4 ≤ p0 then
        some (some (pR (none : Option Nat)), M2)
      else
        rd r0 11 M2 fun a5 =>
        rd (gR M2 706 a5) 0 M2 fun a7 =>
        clR (ex 16 2 [pR (some a7), pI p0] M2) fun r8 M6 =>
        ck r8 4 M6
        (some (some (pR r8), M6)) := (rn_un PP [] 109 15 0 _ [] M).trans rfl
set_option maxRecDepth 100000 in
set_option maxHeartbeats 4000000 in
theorem tX11_rowAt (r0 : Option Nat) (p0 : Int64) (M : Mem) : ex 110 3 [pR r0, pJ p0] M =
    if lg_cmp p0 (0 : Int64) < 0 then
      some (some (pR (none : Option Nat)), M)
    else
      rd r0 11 M fun a1 =>
      if 0 ≤ lg_cmp p0 ((gI M 708 a1).toInt64) then
        some (some (pR (none : Option Nat)), M)
      else
        rd r0 11 M fun a2 =>
        rd (gR M 707 a2) 0 M fun a4 =>
        clR (ex 16 2 [pR (some a4), pI p0.toInt32] M) fun r5 M3 =>
        ck r5 10 M3
        (some (some (pR r5), M3)) := (rn_un PP [] 110 19 0 _ [] M).trans rfl
set_option maxRecDepth 100000 in
set_option maxHeartbeats 4000000 in
theorem tX11_objectAt (r0 : Option Nat) (p0 : Int64) (M : Mem) : ex 111 3 [pR r0, pJ p0] M =
    if lg_cmp p0 (0 : Int64) < 0 then
      some (some (pR (none : Option Nat)), M)
    else
      rd r0 11 M fun a1 =>
      if 0 ≤ lg_cmp p0 ((gI M 711 a1).toInt64) then
        some (some (pR (none : Option Nat)), M)
      else
        rd r0 11 M fun a2 =>
        rd (gR M 710 a2) 0 M fun a4 =>
        clR (ex 16 2 [pR (some a4), pI p0.toInt32] M) fun r5 M3 =>
        ck r5 7 M3
        (some (some (pR r5), M3)) := (rn_un PP [] 111 19 0 _ [] M).trans rfl
set_option maxRecDepth 100000 in
set_option maxHeartbeats 4000000 in
theorem tX11_lineAt (r0 : Option Nat) (p0 : Int64) (M : Mem) : ex 112 3 [pR r0, pJ p0] M =
    if lg_cmp p0 (0 : Int64) < 0 then
      some (some (pR (none : Option Nat)), M)
    else
      rd r0 11 M fun a1 =>
      rd (gR M 719 a1) 0 M fun a3 =>
      clI (ex 14 1 [pR (some a3)] M) fun r4 M2 =>
      if 0 ≤ lg_cmp p0 r4.toInt64 then
        some (some (pR (none : Option Nat)), M2)
      else
        rd r0 11 M2 fun a5 =>
        rd (gR M2 719 a5) 0 M2 fun a7 =>
        clR (ex 16 2 [pR (some a7), pI p0.toInt32] M2) fun r8 M6 =>
        ck r8 6 M6
        (some (some (pR r8), M6)) := (rn_un PP [] 112 20 0 _ [] M).trans rfl
set_option maxRecDepth 100000 in
set_option maxHeartbeats 4000000 in
theorem tX11_answerOf (p0 : Int32) (M : Mem) : ex 113 1 [pI p0] M =
    some (some (pI ((-10) - p0)), M) := (rn_un PP [] 113 5 0 _ [] M).trans rfl
set_option maxRecDepth 100000 in
set_option maxHeartbeats 4000000 in
theorem tX11_isSort (r0 : Option Nat) (p0 : Int32) (p1 : Int32) (M : Mem) : ex 114 3 [pR r0, pI p0, pI p1] M =
    if p0 < 0 then
      zo 0 (some (some (pI 0), M))
    else
      if p0 ≤ 11 then
        if p0 = Int32.ofInt (8) then
          rd r0 11 M fun a2 =>
          clR (ex 107 2 [pR (some a2), pI p1] M) fun r3 M1 =>
          if r3 = none then
            zo 0 (some (some (pI 0), M1))
          else
            zo 1 (some (some (pI 1), M1))
        else if p0 = Int32.ofInt (9) then
          rd r0 11 M fun a5 =>
          clR (ex 107 2 [pR (some a5), pI p1] M) fun r6 M4 =>
          if r6 = none then
            zo 0 (some (some (pI 0), M4))
          else
            zo 1 (some (some (pI 1), M4))
        else if p0 = Int32.ofInt (10) then
          if p1 < 0 then
            zo 0 (some (some (pI 0), M))
          else
            if 7 < p1 then
              zo 0 (some (some (pI 0), M))
            else
              zo 1 (some (some (pI 1), M))
        else if p0 = Int32.ofInt (11) then
          rd r0 11 M fun a8 =>
          clR (ex 109 2 [pR (some a8), pI p1] M) fun r9 M7 =>
          if r9 = none then
            zo 0 (some (some (pI 0), M7))
          else
            zo 1 (some (some (pI 1), M7))
        else 
          zo 1 (some (some (pI 1), M))
      else
        zo 0 (some (some (pI 0), M)) := (rn_un PP [] 114 16 0 _ [] M).trans rfl
set_option maxRecDepth 100000 in
set_option maxHeartbeats 4000000 in
theorem tX11_gatherLeaves (r0 : Option Nat) (M : Mem) : ex 115 5 [pR r0] M =
    rn PP 115 2 [some (pR r0), some (pI 0), none, none, none] [] M := (rn_un PP [2, 32] 115 4 0 _ [] M).trans rfl
set_option maxRecDepth 100000 in
set_option maxHeartbeats 4000000 in
theorem tX11_gatherLeaves_2 (l0 : Option Nat) (l1 : Int32) (M : Mem) : rn PP 115 2 [some (pR l0), some (pI l1), none, none, none] [] M =
    rd l0 11 M fun a1 =>
    rd (gR M 706 a1) 0 M fun a3 =>
    clI (ex 14 1 [pR (some a3)] M) fun r4 M2 =>
    if r4 ≤ l1 then
      some (none, M2)
    else
      rd l0 11 M2 fun a5 =>
      rd (gR M2 706 a5) 0 M2 fun a7 =>
      clR (ex 16 2 [pR (some a7), pI l1] M2) fun r8 M6 =>
      ck r8 4 M6
      (rd r8 4 M6 fun a9 =>
      bd (sI M6 259 a9 0) fun M10 =>
      rn PP 115 32 [some (pR l0), some (pI l1), some (pR r8), some (pI 0), none] [] M10) := (rn_un PP [2, 32] 115 18 2 _ _ M).trans rfl
set_option maxRecDepth 100000 in
set_option maxHeartbeats 4000000 in
theorem tX11_gatherLeaves_32 (l0 : Option Nat) (l1 : Int32) (l2 : Option Nat) (l3 : Int32) (M : Mem) : rn PP 115 32 [some (pR l0), some (pI l1), some (pR l2), some (pI l3), none] [] M =
    rd l2 4 M fun a1 =>
    if gI M 257 a1 ≤ l3 then
      rn PP 115 2 [some (pR l0), some (pI (l1 + 1)), none, none, none] [] M
    else
      rd l2 4 M fun a2 =>
      ix 20 30 (gR M 256 a2) l3 M fun a3 j4 =>
      if aI M a3 j4 < 10 then
        rd l2 4 M fun a6 =>
        clV (ex 52 2 [pR (some a6), pI (aI M a3 j4)] M) fun M5 =>
        rn PP 115 32 [some (pR l0), some (pI l1), some (pR l2), some (pI (l3 + 1)), none] [] M5
      else
        rd l0 11 M fun a8 =>
        clR (ex 109 2 [pR (some a8), pI (aI M a3 j4 - 10)] M) fun r9 M7 =>
        rd l2 4 M7 fun a11 =>
        clV (ex 53 3 [pR (some a11), pR r9] M7) fun M10 =>
        rn PP 115 32 [some (pR l0), some (pI l1), some (pR l2), some (pI (l3 + 1)), none] [] M10 := (rn_un PP [2, 32] 115 24 32 _ _ M).trans rfl
set_option maxRecDepth 100000 in
set_option maxHeartbeats 4000000 in
theorem tX11_startRecord (r0 : Option Nat) (p0 : Int32) (p1 : Option Nat) (M : Mem) : ex 116 3 [pR r0, pI p0, pR p1] M =
    rd p1 9 M fun a1 =>
    if gI M 578 a1 = 0 then
      rd p1 9 M fun a2 =>
      zo 1 (bd (sI M 578 a2 1) fun M3 =>
      rd r0 11 M3 fun a5 =>
      clV (ex 118 2 [pR (some a5), pI p0] M3) fun M4 =>
      some (none, M4))
    else
      some (none, M) := (rn_un PP [] 116 11 0 _ [] M).trans rfl
set_option maxRecDepth 100000 in
set_option maxHeartbeats 4000000 in
theorem tX11_startEnumeration (r0 : Option Nat) (p0 : Int32) (M : Mem) : ex 117 3 [pR r0, pI p0] M =
    rd r0 11 M fun a2 =>
    clR (ex 107 2 [pR (some a2), pI p0] M) fun r3 M1 =>
    if r3 = none then
      some (some (pI 0), M1)
    else
      rd r3 3 M1 fun a4 =>
      if gI M1 194 a4 = 0 then
        rd r3 3 M1 fun a5 =>
        if gI M1 195 a5 = 0 then
          rd r3 3 M1 fun a6 =>
          if gI M1 193 a6 = 0 then
            rd r3 3 M1 fun a7 =>
            zo 1 (bd (sI M1 194 a7 1) fun M8 =>
            rd r0 11 M8 fun a10 =>
            clV (ex 118 2 [pR (some a10), pI (10 + p0)] M8) fun M9 =>
            some (some (pI 0), M9))
          else
            rd r3 3 M1 fun a11 =>
            zo 1 (bd (sI M1 195 a11 1) fun M12 =>
            some (some (pI 9), M12))
        else
          some (some (pI 10), M1)
      else
        some (some (pI 0), M1) := (rn_un PP [] 117 26 0 _ [] M).trans rfl
set_option maxRecDepth 100000 in
set_option maxHeartbeats 4000000 in
theorem tX11_noteStart (r0 : Option Nat) (p0 : Int32) (M : Mem) : ex 118 2 [pR r0, pI p0] M =
    rd r0 11 M fun a1 =>
    rd r0 11 M fun a2 =>
    al (gR M 714 a2) M fun a3 =>
    if nI (ln M a3) ≤ gI M 715 a1 then
      some (none, M)
    else
      rd r0 11 M fun a4 =>
      rd r0 11 M fun a5 =>
      rd r0 11 M fun a6 =>
      bd (sI M 715 a6 (gI M 715 a5 + 1)) fun M7 =>
      ix 20 20 (gR M 714 a4) (gI M 715 a5) M7 fun a8 j9 =>
      bd (wI M7 a8 j9 p0) fun M10 =>
      some (none, M10) := (rn_un PP [] 118 19 0 _ [] M).trans rfl
set_option maxRecDepth 100000 in
set_option maxHeartbeats 4000000 in
theorem tX11_startFor (r0 : Option Nat) (p0 : Option Nat) (p1 : Int64) (M : Mem) : ex 119 5 [pR r0, pR p0, pJ p1] M =
    rd p0 8 M fun a1 =>
    if ¬ gI M 513 a1 = 8 then
      rd p0 8 M fun a2 =>
      if ¬ gI M 513 a2 = 9 then
        if (0 : Int32) = 0 then
          some (some (pI 0), M)
        else
          rd p0 8 M fun a3 =>
          rd r0 11 M fun a5 =>
          clI (ex 117 3 [pR (some a5), pI (gI M 514 a3)] M) fun r6 M4 =>
          some (some (pI r6), M4)
      else
        if lg_cmp p1 (0 : Int64) = 0 then
          if (0 : Int32) = 0 then
            some (some (pI 0), M)
          else
            rd p0 8 M fun a7 =>
            rd r0 11 M fun a9 =>
            clI (ex 117 3 [pR (some a9), pI (gI M 514 a7)] M) fun r10 M8 =>
            some (some (pI r10), M8)
        else
          if (1 : Int32) = 0 then
            some (some (pI 0), M)
          else
            rd p0 8 M fun a11 =>
            rd r0 11 M fun a13 =>
            clI (ex 117 3 [pR (some a13), pI (gI M 514 a11)] M) fun r14 M12 =>
            some (some (pI r14), M12)
    else
      if ¬ lg_cmp p1 (-1 : Int64) = 0 then
        if (1 : Int32) = 0 then
          some (some (pI 0), M)
        else
          rd p0 8 M fun a15 =>
          rd r0 11 M fun a17 =>
          clI (ex 117 3 [pR (some a17), pI (gI M 514 a15)] M) fun r18 M16 =>
          some (some (pI r18), M16)
      else
        rd p0 8 M fun a19 =>
        if ¬ gI M 513 a19 = 9 then
          if (0 : Int32) = 0 then
            some (some (pI 0), M)
          else
            rd p0 8 M fun a20 =>
            rd r0 11 M fun a22 =>
            clI (ex 117 3 [pR (some a22), pI (gI M 514 a20)] M) fun r23 M21 =>
            some (some (pI r23), M21)
        else
          if lg_cmp p1 (0 : Int64) = 0 then
            if (0 : Int32) = 0 then
              some (some (pI 0), M)
            else
              rd p0 8 M fun a24 =>
              rd r0 11 M fun a26 =>
              clI (ex 117 3 [pR (some a26), pI (gI M 514 a24)] M) fun r27 M25 =>
              some (some (pI r27), M25)
          else
            if (1 : Int32) = 0 then
              some (some (pI 0), M)
            else
              rd p0 8 M fun a28 =>
              rd r0 11 M fun a30 =>
              clI (ex 117 3 [pR (some a30), pI (gI M 514 a28)] M) fun r31 M29 =>
              some (some (pI r31), M29) := (rn_un PP [] 119 28 0 _ [] M).trans rfl
set_option maxRecDepth 100000 in
set_option maxHeartbeats 4000000 in
theorem tX11_addRow (r0 : Option Nat) (p0 : Int32) (p1 : Int32) (M : Mem) : ex 120 3 [pR r0, pI p0, pI p1] M =
    rd r0 11 M fun a1 =>
    rd r0 11 M fun a2 =>
    rd (gR M 707 a2) 0 M fun a4 =>
    clI (ex 14 1 [pR (some a4)] M) fun r5 M3 =>
    if ¬ gI M 708 a1 = r5 then
      rd r0 11 M3 fun a6 =>
      rd r0 11 M3 fun a7 =>
      rd (gR M3 707 a6) 0 M3 fun a9 =>
      clR (ex 16 2 [pR (some a9), pI (gI M3 708 a7)] M3) fun r10 M8 =>
      ck r10 10 M8
      (rd r10 10 M8 fun a12 =>
      clV (ex 70 3 [pR (some a12), pI p0, pI p1] M8) fun M11 =>
      rd r0 11 M11 fun a13 =>
      rd r0 11 M11 fun a14 =>
      bd (sI M11 708 a14 (gI M11 708 a13 + 1)) fun M15 =>
      some (some (pI (gI M11 708 a13)), M15))
    else
      rd r0 11 M3 fun a16 =>
      bd (nO M3 10 3) fun M17 =>
      rd (some (mT M3)) 10 M17 fun a19 =>
      clV (ex 69 1 [pR (some a19)] M17) fun M18 =>
      rd (gR M3 707 a16) 0 M18 fun a21 =>
      clI (ex 19 2 [pR (some a21), pR (some (mT M3))] M18) fun r22 M20 =>
      rd r0 11 M20 fun a23 =>
      rd r0 11 M20 fun a24 =>
      rd (gR M20 707 a23) 0 M20 fun a26 =>
      clR (ex 16 2 [pR (some a26), pI (gI M20 708 a24)] M20) fun r27 M25 =>
      ck r27 10 M25
      (rd r27 10 M25 fun a29 =>
      clV (ex 70 3 [pR (some a29), pI p0, pI p1] M25) fun M28 =>
      rd r0 11 M28 fun a30 =>
      rd r0 11 M28 fun a31 =>
      bd (sI M28 708 a31 (gI M28 708 a30 + 1)) fun M32 =>
      some (some (pI (gI M28 708 a30)), M32)) := (rn_un PP [] 120 31 0 _ [] M).trans rfl
set_option maxRecDepth 100000 in
set_option maxHeartbeats 4000000 in
theorem tX11_draftFits (r0 : Option Nat) (p0 : Option Nat) (M : Mem) : ex 121 3 [pR r0, pR p0] M =
    rn PP 121 2 [some (pR r0), some (pR p0), some (pI 0)] [] M := (rn_un PP [2] 121 4 0 _ [] M).trans rfl
set_option maxRecDepth 100000 in
set_option maxHeartbeats 4000000 in
theorem tX11_draftFits_2 (l0 : Option Nat) (l1 : Option Nat) (l2 : Int32) (M : Mem) : rn PP 121 2 [some (pR l0), some (pR l1), some (pI l2)] [] M =
    rd l1 9 M fun a1 =>
    rd (gR M 576 a1) 0 M fun a3 =>
    clI (ex 14 1 [pR (some a3)] M) fun r4 M2 =>
    if r4 ≤ l2 then
      zo 1 (some (some (pI 1), M2))
    else
      rd l1 9 M2 fun a5 =>
      rd (gR M2 576 a5) 0 M2 fun a7 =>
      clR (ex 16 2 [pR (some a7), pI l2] M2) fun r8 M6 =>
      ck r8 8 M6
      (rd l0 11 M6 fun a9 =>
      ix 21 21 (gR M6 716 a9) l2 M6 fun a10 j11 =>
      rd l0 11 M6 fun a13 =>
      clI (ex 122 5 [pR (some a13), pR r8, pJ (aJ M6 a10 j11)] M6) fun r14 M12 =>
      if ¬ r14 = 0 then
        rn PP 121 2 [some (pR l0), some (pR l1), some (pI (l2 + 1))] [] M12
      else
        zo 0 (some (some (pI 0), M12))) := (rn_un PP [2] 121 21 2 _ _ M).trans rfl
set_option maxRecDepth 100000 in
set_option maxHeartbeats 4000000 in
theorem tX11_fits (r0 : Option Nat) (p0 : Option Nat) (p1 : Int64) (M : Mem) : ex 122 5 [pR r0, pR p0, pJ p1] M =
    rd p0 8 M fun a1 =>
    if ¬ gI M 513 a1 = 9 then
      rd p0 8 M fun a2 =>
      if gI M 513 a2 < 8 then
        zo 1 (some (some (pI 1), M))
      else
        if ¬ lg_cmp p1 (-1 : Int64) = 0 then
          rd p0 8 M fun a3 =>
          if ¬ gI M 513 a3 = 8 then
            rd p0 8 M fun a4 =>
            if ¬ gI M 513 a4 = 10 then
              rd r0 11 M fun a6 =>
              clR (ex 111 3 [pR (some a6), pJ p1] M) fun r7 M5 =>
              if r7 = none then
                zo 0 (some (some (pI 0), M5))
              else
                rd p0 8 M5 fun a8 =>
                rd r0 11 M5 fun a10 =>
                clI (ex 125 4 [pR (some a10), pR r7, pI (gI M5 514 a8)] M5) fun r11 M9 =>
                if r11 = 0 then
                  zo 0 (some (some (pI 0), M9))
                else
                  zo 1 (some (some (pI 1), M9))
            else
              rd r0 11 M fun a13 =>
              clR (ex 110 3 [pR (some a13), pJ p1] M) fun r14 M12 =>
              if r14 = none then
                zo 0 (some (some (pI 0), M12))
              else
                rd r14 10 M12 fun a15 =>
                rd p0 8 M12 fun a16 =>
                if ¬ gI M12 640 a15 = gI M12 514 a16 then
                  zo 0 (some (some (pI 0), M12))
                else
                  zo 1 (some (some (pI 1), M12))
          else
            rd p0 8 M fun a17 =>
            rd r0 11 M fun a19 =>
            clI (ex 123 5 [pR (some a19), pI (gI M 514 a17), pJ p1] M) fun r20 M18 =>
            zo r20 (some (some (pI r20), M18))
        else
          zo 1 (some (some (pI 1), M))
    else
      rd p0 8 M fun a21 =>
      rd r0 11 M fun a23 =>
      clI (ex 124 5 [pR (some a23), pI (gI M 514 a21), pJ p1] M) fun r24 M22 =>
      zo r24 (some (some (pI r24), M22)) := (rn_un PP [] 122 36 0 _ [] M).trans rfl
set_option maxRecDepth 100000 in
set_option maxHeartbeats 4000000 in
theorem tX11_isOrdinal (r0 : Option Nat) (p0 : Int32) (p1 : Int64) (M : Mem) : ex 123 5 [pR r0, pI p0, pJ p1] M =
    rd r0 11 M fun a2 =>
    clR (ex 107 2 [pR (some a2), pI p0] M) fun r3 M1 =>
    if r3 = none then
      zo 0 (some (some (pI 0), M1))
    else
      if lg_cmp p1 (0 : Int64) < 0 then
        zo 0 (some (some (pI 0), M1))
      else
        rd r3 3 M1 fun a4 =>
        rd (gR M1 192 a4) 0 M1 fun a6 =>
        clI (ex 14 1 [pR (some a6)] M1) fun r7 M5 =>
        if 0 ≤ lg_cmp p1 r7.toInt64 then
          zo 0 (some (some (pI 0), M5))
        else
          zo 1 (some (some (pI 1), M5)) := (rn_un PP [] 123 21 0 _ [] M).trans rfl
set_option maxRecDepth 100000 in
set_option maxHeartbeats 4000000 in
theorem tX11_enumerationHolds (r0 : Option Nat) (p0 : Int32) (p1 : Int64) (M : Mem) : ex 124 5 [pR r0, pI p0, pJ p1] M =
    rd r0 11 M fun a2 =>
    clR (ex 107 2 [pR (some a2), pI p0] M) fun r3 M1 =>
    if r3 = none then
      zo 0 (some (some (pI 0), M1))
    else
      rd r3 3 M1 fun a4 =>
      rd (gR M1 192 a4) 0 M1 fun a6 =>
      clI (ex 14 1 [pR (some a6)] M1) fun r7 M5 =>
      if ¬ lg_cmp ((p1.toUInt64 >>> (r7.toInt64.toUInt64 &&& Int64.toUInt64 63)).toInt64) (0 : Int64) = 0 then
        zo 0 (some (some (pI 0), M5))
      else
        zo 1 (some (some (pI 1), M5)) := (rn_un PP [] 124 18 0 _ [] M).trans rfl
set_option maxRecDepth 100000 in
set_option maxHeartbeats 4000000 in
theorem tX11_isOfFamily (r0 : Option Nat) (p0 : Option Nat) (p1 : Int32) (M : Mem) : ex 125 4 [pR r0, pR p0, pI p1] M =
    rd r0 11 M fun a2 =>
    clR (ex 109 2 [pR (some a2), pI p1] M) fun r3 M1 =>
    if r3 = none then
      zo 0 (some (some (pI 0), M1))
    else
      rd p0 7 M1 fun a4 =>
      rd r3 4 M1 fun a6 =>
      clI (ex 51 3 [pR (some a6), pI (gI M1 448 a4)] M1) fun r7 M5 =>
      if r7 = (-1) then
        zo 0 (some (some (pI 0), M5))
      else
        zo 1 (some (some (pI 1), M5)) := (rn_un PP [] 125 16 0 _ [] M).trans rfl
set_option maxRecDepth 100000 in
set_option maxHeartbeats 4000000 in
theorem tX11_construct (r0 : Option Nat) (p0 : Int32) (p1 : Option Nat) (p2 : Int32) (M : Mem) : ex 126 9 [pR r0, pI p0, pR p1, pI p2] M =
    rd r0 11 M fun a2 =>
    clR (ex 108 2 [pR (some a2), pI p0] M) fun r3 M1 =>
    if r3 = none then
      some (some (pI (-1)), M1)
    else
      rd r0 11 M1 fun a5 =>
      clV (ex 116 3 [pR (some a5), pI p0, pR r3] M1) fun M4 =>
      rn PP 126 24 [some (pR r0), some (pI p0), some (pR p1), some (pI p2), some (pR r3), some (pI 0), none, none, none] [] M4 := (rn_un PP [24, 86] 126 14 0 _ [] M).trans rfl
set_option maxRecDepth 100000 in
set_option maxHeartbeats 4000000 in
theorem tX11_construct_24 (l0 : Option Nat) (l1 : Int32) (l2 : Option Nat) (l3 : Int32) (l4 : Option Nat) (l5 : Int32) (M : Mem) : rn PP 126 24 [some (pR l0), some (pI l1), some (pR l2), some (pI l3), some (pR l4), some (pI l5), none, none, none] [] M =
    rd l4 9 M fun a1 =>
    rd (gR M 576 a1) 0 M fun a3 =>
    clI (ex 14 1 [pR (some a3)] M) fun r4 M2 =>
    if r4 ≤ l5 then
      rn PP 126 86 [some (pR l0), some (pI l1), some (pR l2), some (pI l3), some (pR l4), some (pI 0), none, none, none] [] M2
    else
      rd l4 9 M2 fun a5 =>
      rd (gR M2 576 a5) 0 M2 fun a7 =>
      clR (ex 16 2 [pR (some a7), pI l5] M2) fun r8 M6 =>
      ck r8 8 M6
      (ix 21 21 l2 l5 M6 fun a9 j10 =>
      rd l0 11 M6 fun a12 =>
      clI (ex 119 5 [pR (some a12), pR r8, pJ (aJ M6 a9 j10)] M6) fun r13 M11 =>
      if r13 = 0 then
        rn PP 126 24 [some (pR l0), some (pI l1), some (pR l2), some (pI l3), some (pR l4), some (pI (l5 + 1)), none, none, none] [] M11
      else
        rd l0 11 M11 fun a15 =>
        clI (ex 127 6 [pR (some a15), pI r13, pI l1, pI l5, pI (-1), pI l3] M11) fun r16 M14 =>
        some (some (pI r16), M14)) := (rn_un PP [24, 86] 126 27 24 _ _ M).trans rfl
set_option maxRecDepth 100000 in
set_option maxHeartbeats 4000000 in
theorem tX11_construct_86 (l0 : Option Nat) (l1 : Int32) (l2 : Option Nat) (l3 : Int32) (l4 : Option Nat) (l5 : Int32) (M : Mem) : rn PP 126 86 [some (pR l0), some (pI l1), some (pR l2), some (pI l3), some (pR l4), some (pI l5), none, none, none] [] M =
    rd l4 9 M fun a1 =>
    rd (gR M 577 a1) 0 M fun a3 =>
    clI (ex 14 1 [pR (some a3)] M) fun r4 M2 =>
    if r4 ≤ l5 then
      rd l0 11 M2 fun a6 =>
      clI (ex 132 4 [pR (some a6), pI l1, pR l2] M2) fun r7 M5 =>
      some (some (pI r7), M5)
    else
      rd l4 9 M2 fun a8 =>
      rd (gR M2 577 a8) 0 M2 fun a10 =>
      clR (ex 16 2 [pR (some a10), pI l5] M2) fun r11 M9 =>
      ck r11 1 M9
      (rd r11 1 M9 fun a12 =>
      rd l4 9 M9 fun a14 =>
      clR (ex 65 2 [pR (some a14), pI (gI M9 64 a12)] M9) fun r15 M13 =>
      if r15 = none then
        if (0 : Int32) = 0 then
          rn PP 126 86 [some (pR l0), some (pI l1), some (pR l2), some (pI l3), some (pR l4), some (pI (l5 + 1)), none, none, none] [] M13
        else
          rd r11 1 M13 fun a26 =>
          rd l0 11 M13 fun a28 =>
          clI (ex 127 6 [pR (some a28), pI 0, pI l1, pI (gI M13 64 a26), pI l5, pI l3] M13) fun r29 M27 =>
          some (some (pI r29), M27)
      else
        rd r11 1 M13 fun a16 =>
        ix 21 21 l2 (gI M13 64 a16) M13 fun a17 j18 =>
        rd l0 11 M13 fun a20 =>
        clI (ex 128 5 [pR (some a20), pR r11, pR r15, pJ (aJ M13 a17 j18)] M13) fun r21 M19 =>
        if r21 = 0 then
          rn PP 126 86 [some (pR l0), some (pI l1), some (pR l2), some (pI l3), some (pR l4), some (pI (l5 + 1)), none, none, none] [] M19
        else
          rd r11 1 M19 fun a22 =>
          rd l0 11 M19 fun a24 =>
          clI (ex 127 6 [pR (some a24), pI r21, pI l1, pI (gI M19 64 a22), pI l5, pI l3] M19) fun r25 M23 =>
          some (some (pI r25), M23)) := (rn_un PP [24, 86] 126 39 86 _ _ M).trans rfl
set_option maxRecDepth 100000 in
set_option maxHeartbeats 4000000 in
theorem tX11_failed (r0 : Option Nat) (p0 : Int32) (p1 : Int32) (p2 : Int32) (p3 : Int32) (p4 : Int32) (M : Mem) : ex 127 6 [pR r0, pI p0, pI p1, pI p2, pI p3, pI p4] M =
    rd r0 11 M fun a1 =>
    ix 20 20 (gR M 718 a1) 0 M fun a2 j3 =>
    bd (wI M a2 j3 p0) fun M4 =>
    rd r0 11 M4 fun a5 =>
    ix 20 20 (gR M4 718 a5) 1 M4 fun a6 j7 =>
    bd (wI M4 a6 j7 p1) fun M8 =>
    rd r0 11 M8 fun a9 =>
    ix 20 20 (gR M8 718 a9) 2 M8 fun a10 j11 =>
    bd (wI M8 a10 j11 p2) fun M12 =>
    rd r0 11 M12 fun a13 =>
    ix 20 20 (gR M12 718 a13) 3 M12 fun a14 j15 =>
    bd (wI M12 a14 j15 p3) fun M16 =>
    rd r0 11 M16 fun a17 =>
    ix 20 20 (gR M16 718 a17) 4 M16 fun a18 j19 =>
    bd (wI M16 a18 j19 p4) fun M20 =>
    clI (ex 113 1 [pI p0] M20) fun r22 M21 =>
    some (some (pI r22), M21) := (rn_un PP [] 127 29 0 _ [] M).trans rfl
set_option maxRecDepth 100000 in
set_option maxHeartbeats 4000000 in
theorem tX11_thrownBy (r0 : Option Nat) (p0 : Option Nat) (p1 : Option Nat) (p2 : Int64) (M : Mem) : ex 128 5 [pR r0, pR p0, pR p1, pJ p2] M =
    rd p0 1 M fun a1 =>
    if gI M 65 a1 = Int32.ofInt (0) then
      rd p1 8 M fun a2 =>
      rd p0 1 M fun a3 =>
      rd p0 1 M fun a4 =>
      clI (ex 34 9 [pI (gI M 513 a2), pJ p2, pJ (gJ M 66 a3), pJ (gJ M 67 a4)] M) fun r6 M5 =>
      if r6 = 0 then
        some (some (pI 1), M5)
      else
        some (some (pI 0), M5)
    else if gI M 65 a1 = Int32.ofInt (1) then
      if ¬ lg_cmp p2 (-1 : Int64) = 0 then
        some (some (pI 0), M)
      else
        some (some (pI 2), M)
    else if gI M 65 a1 = Int32.ofInt (2) then
      if ¬ lg_cmp p2 (0 : Int64) = 0 then
        some (some (pI 0), M)
      else
        some (some (pI 3), M)
    else if gI M 65 a1 = Int32.ofInt (3) then
      gd (¬ (8 : Int64) = 0)
      (if 0 ≤ lg_cmp (p2 - p2 / (8 : Int64) * (8 : Int64)) (0 : Int64) then
        some (some (pI 0), M)
      else
        some (some (pI 4), M))
    else if gI M 65 a1 = Int32.ofInt (4) then
      rd r0 11 M fun a8 =>
      clR (ex 110 3 [pR (some a8), pJ p2] M) fun r9 M7 =>
      rd p0 1 M7 fun a10 =>
      clI (ex 129 3 [pR r9, pJ (gJ M7 66 a10)] M7) fun r12 M11 =>
      some (some (pI r12), M11)
    else if gI M 65 a1 = Int32.ofInt (5) then
      rd r0 11 M fun a14 =>
      clR (ex 111 3 [pR (some a14), pJ p2] M) fun r15 M13 =>
      rd p0 1 M13 fun a16 =>
      clI (ex 130 3 [pR r15, pJ (gJ M13 66 a16)] M13) fun r18 M17 =>
      some (some (pI r18), M17)
    else if gI M 65 a1 = Int32.ofInt (6) then
      rd p1 8 M fun a19 =>
      rd r0 11 M fun a21 =>
      clI (ex 131 6 [pR (some a21), pI (gI M 514 a19), pJ p2] M) fun r22 M20 =>
      some (some (pI r22), M20)
    else 
      some (some (pI 0), M) := (rn_un PP [] 128 16 0 _ [] M).trans rfl
set_option maxRecDepth 100000 in
set_option maxHeartbeats 4000000 in
theorem tX11_thrownByItem (p0 : Option Nat) (p1 : Int64) (M : Mem) : ex 129 3 [pR p0, pJ p1] M =
    if p0 = none then
      some (some (pI 2), M)
    else
      rd p0 10 M fun a2 =>
      clI (ex 71 3 [pR (some a2), pJ p1] M) fun r3 M1 =>
      if r3 = 0 then
        some (some (pI 5), M1)
      else
        some (some (pI 0), M1) := (rn_un PP [] 129 10 0 _ [] M).trans rfl
set_option maxRecDepth 100000 in
set_option maxHeartbeats 4000000 in
theorem tX11_thrownByCast (p0 : Option Nat) (p1 : Int64) (M : Mem) : ex 130 3 [pR p0, pJ p1] M =
    if p0 = none then
      some (some (pI 0), M)
    else
      rd p0 7 M fun a1 =>
      if ¬ lg_cmp ((gI M 448 a1).toInt64) p1 = 0 then
        some (some (pI 6), M)
      else
        some (some (pI 0), M) := (rn_un PP [] 130 12 0 _ [] M).trans rfl
set_option maxRecDepth 100000 in
set_option maxHeartbeats 4000000 in
theorem tX11_thrownByLaying (r0 : Option Nat) (p0 : Int32) (p1 : Int64) (M : Mem) : ex 131 6 [pR r0, pI p0, pJ p1] M =
    rd r0 11 M fun a2 =>
    clR (ex 107 2 [pR (some a2), pI p0] M) fun r3 M1 =>
    if r3 = none then
      if (none : Option Nat) = none then
        some (some (pI 0), M1)
      else
        rd (none : Option Nat) 2 M1 fun a8 =>
        if gI M1 129 a8 = 0 then
          some (some (pI 7), M1)
        else
          some (some (pI 0), M1)
    else
      rd r3 3 M1 fun a5 =>
      clR (ex 46 3 [pR (some a5), pJ p1] M1) fun r6 M4 =>
      if r6 = none then
        some (some (pI 0), M4)
      else
        rd r6 2 M4 fun a7 =>
        if gI M4 129 a7 = 0 then
          some (some (pI 7), M4)
        else
          some (some (pI 0), M4) := (rn_un PP [] 131 19 0 _ [] M).trans rfl
set_option maxRecDepth 100000 in
set_option maxHeartbeats 4000000 in
theorem tX11_addObject (r0 : Option Nat) (p0 : Int32) (p1 : Option Nat) (M : Mem) : ex 132 4 [pR r0, pI p0, pR p1] M =
    rd r0 11 M fun a1 =>
    rd r0 11 M fun a2 =>
    rd (gR M 710 a2) 0 M fun a4 =>
    clI (ex 14 1 [pR (some a4)] M) fun r5 M3 =>
    if ¬ gI M 711 a1 = r5 then
      rd r0 11 M3 fun a6 =>
      rd r0 11 M3 fun a7 =>
      rd (gR M3 710 a6) 0 M3 fun a9 =>
      clR (ex 16 2 [pR (some a9), pI (gI M3 711 a7)] M3) fun r10 M8 =>
      ck r10 7 M8
      (rd r10 7 M8 fun a11 =>
      bd (sI M8 448 a11 p0) fun M12 =>
      rd r10 7 M12 fun a13 =>
      bd (sI M12 451 a13 (-1)) fun M14 =>
      rd r10 7 M14 fun a15 =>
      cpJ p1 0 (gR M14 449 a15) 0 6 M14 fun M16 =>
      rd r0 11 M16 fun a17 =>
      rd r0 11 M16 fun a18 =>
      bd (sI M16 711 a18 (gI M16 711 a17 + 1)) fun M19 =>
      some (some (pI (gI M16 711 a17)), M19))
    else
      rd r0 11 M3 fun a20 =>
      bd (nO M3 7 5) fun M21 =>
      rd (some (mT M3)) 7 M21 fun a23 =>
      clV (ex 62 1 [pR (some a23)] M21) fun M22 =>
      rd (gR M3 710 a20) 0 M22 fun a25 =>
      clI (ex 19 2 [pR (some a25), pR (some (mT M3))] M22) fun r26 M24 =>
      rd r0 11 M24 fun a27 =>
      rd r0 11 M24 fun a28 =>
      rd (gR M24 710 a27) 0 M24 fun a30 =>
      clR (ex 16 2 [pR (some a30), pI (gI M24 711 a28)] M24) fun r31 M29 =>
      ck r31 7 M29
      (rd r31 7 M29 fun a32 =>
      bd (sI M29 448 a32 p0) fun M33 =>
      rd r31 7 M33 fun a34 =>
      bd (sI M33 451 a34 (-1)) fun M35 =>
      rd r31 7 M35 fun a36 =>
      cpJ p1 0 (gR M35 449 a36) 0 6 M35 fun M37 =>
      rd r0 11 M37 fun a38 =>
      rd r0 11 M37 fun a39 =>
      bd (sI M37 711 a39 (gI M37 711 a38 + 1)) fun M40 =>
      some (some (pI (gI M37 711 a38)), M40)) := (rn_un PP [] 132 42 0 _ [] M).trans rfl
set_option maxRecDepth 100000 in
set_option maxHeartbeats 4000000 in
theorem tX11_findTwins (r0 : Option Nat) (M : Mem) : ex 133 2 [pR r0] M =
    rd r0 11 M fun a1 =>
    rn PP 133 5 [some (pR r0), some (pI (gI M 713 a1))] [] M := (rn_un PP [5] 133 5 0 _ [] M).trans rfl
set_option maxRecDepth 100000 in
set_option maxHeartbeats 4000000 in
theorem tX11_findTwins_5 (l0 : Option Nat) (l1 : Int32) (M : Mem) : rn PP 133 5 [some (pR l0), some (pI l1)] [] M =
    rd l0 11 M fun a1 =>
    if gI M 711 a1 ≤ l1 then
      rd l0 11 M fun a2 =>
      rd l0 11 M fun a3 =>
      bd (sI M 713 a3 (gI M 711 a2)) fun M4 =>
      some (none, M4)
    else
      rd l0 11 M fun a5 =>
      rd (gR M 710 a5) 0 M fun a7 =>
      clR (ex 16 2 [pR (some a7), pI l1] M) fun r8 M6 =>
      ck r8 7 M6
      (rd l0 11 M6 fun a10 =>
      clI (ex 134 5 [pR (some a10), pI l1] M6) fun r11 M9 =>
      rd r8 7 M9 fun a12 =>
      bd (sI M9 450 a12 r11) fun M13 =>
      rn PP 133 5 [some (pR l0), some (pI (l1 + 1))] [] M13) := (rn_un PP [5] 133 17 5 _ _ M).trans rfl
set_option maxRecDepth 100000 in
set_option maxHeartbeats 4000000 in
theorem tX11_firstAlike (r0 : Option Nat) (p0 : Int32) (M : Mem) : ex 134 5 [pR r0, pI p0] M =
    rd r0 11 M fun a1 =>
    rd (gR M 710 a1) 0 M fun a3 =>
    clR (ex 16 2 [pR (some a3), pI p0] M) fun r4 M2 =>
    ck r4 7 M2
    (rn PP 134 14 [some (pR r0), some (pI p0), some (pR r4), some (pI 0), none] [] M2) := (rn_un PP [14] 134 10 0 _ [] M).trans rfl
set_option maxRecDepth 100000 in
set_option maxHeartbeats 4000000 in
theorem tX11_firstAlike_14 (l0 : Option Nat) (l1 : Int32) (l2 : Option Nat) (l3 : Int32) (M : Mem) : rn PP 134 14 [some (pR l0), some (pI l1), some (pR l2), some (pI l3), none] [] M =
    if l1 ≤ l3 then
      some (some (pI l1), M)
    else
      rd l0 11 M fun a1 =>
      rd (gR M 710 a1) 0 M fun a3 =>
      clR (ex 16 2 [pR (some a3), pI l3] M) fun r4 M2 =>
      ck r4 7 M2
      (rd r4 7 M2 fun a5 =>
      rd l2 7 M2 fun a6 =>
      if ¬ gI M2 448 a5 = gI M2 448 a6 then
        rn PP 134 14 [some (pR l0), some (pI l1), some (pR l2), some (pI (l3 + 1)), none] [] M2
      else
        rd l0 11 M2 fun a8 =>
        clI (ex 135 10 [pR (some a8), pR r4, pR l2] M2) fun r9 M7 =>
        if r9 = 0 then
          rn PP 134 14 [some (pR l0), some (pI l1), some (pR l2), some (pI (l3 + 1)), none] [] M7
        else
          some (some (pI l3), M7)) := (rn_un PP [14] 134 23 14 _ _ M).trans rfl
set_option maxRecDepth 100000 in
set_option maxHeartbeats 4000000 in
theorem tX11_areAlike (r0 : Option Nat) (p0 : Option Nat) (p1 : Option Nat) (M : Mem) : ex 135 10 [pR r0, pR p0, pR p1] M =
    rd p0 7 M fun a1 =>
    rd r0 11 M fun a3 =>
    clR (ex 108 2 [pR (some a3), pI (gI M 448 a1)] M) fun r4 M2 =>
    if r4 = none then
      zo 0 (some (some (pI 0), M2))
    else
      rn PP 135 18 [some (pR r0), some (pR p0), some (pR p1), some (pR r4), some (pI 0), none, none, none, none, none] [] M2 := (rn_un PP [18] 135 11 0 _ [] M).trans rfl
set_option maxRecDepth 100000 in
set_option maxHeartbeats 4000000 in
theorem tX11_areAlike_18 (l0 : Option Nat) (l1 : Option Nat) (l2 : Option Nat) (l3 : Option Nat) (l4 : Int32) (M : Mem) : rn PP 135 18 [some (pR l0), some (pR l1), some (pR l2), some (pR l3), some (pI l4), none, none, none, none, none] [] M =
    rd l3 9 M fun a1 =>
    rd (gR M 576 a1) 0 M fun a3 =>
    clI (ex 14 1 [pR (some a3)] M) fun r4 M2 =>
    if r4 ≤ l4 then
      zo 1 (some (some (pI 1), M2))
    else
      rd l3 9 M2 fun a5 =>
      rd (gR M2 576 a5) 0 M2 fun a7 =>
      clR (ex 16 2 [pR (some a7), pI l4] M2) fun r8 M6 =>
      ck r8 8 M6
      (rd r8 8 M6 fun a9 =>
      if ¬ gI M6 513 a9 = 11 then
        if (0 : Int32) = 0 then
          rd l1 7 M6 fun a10 =>
          ix 21 21 (gR M6 449 a10) l4 M6 fun a11 j12 =>
          if (0 : Int32) = 0 then
            rd l2 7 M6 fun a13 =>
            ix 21 21 (gR M6 449 a13) l4 M6 fun a14 j15 =>
            if lg_cmp (aJ M6 a11 j12) (aJ M6 a14 j15) = 0 then
              rn PP 135 18 [some (pR l0), some (pR l1), some (pR l2), some (pR l3), some (pI (l4 + 1)), none, none, none, none, none] [] M6
            else
              zo 0 (some (some (pI 0), M6))
          else
            rd l2 7 M6 fun a16 =>
            ix 21 21 (gR M6 449 a16) l4 M6 fun a17 j18 =>
            rd l0 11 M6 fun a20 =>
            clJ (ex 136 4 [pR (some a20), pJ (aJ M6 a17 j18)] M6) fun r21 M19 =>
            if lg_cmp (aJ M6 a11 j12) r21 = 0 then
              rn PP 135 18 [some (pR l0), some (pR l1), some (pR l2), some (pR l3), some (pI (l4 + 1)), none, none, none, none, none] [] M19
            else
              zo 0 (some (some (pI 0), M19))
        else
          rd l1 7 M6 fun a22 =>
          ix 21 21 (gR M6 449 a22) l4 M6 fun a23 j24 =>
          rd l0 11 M6 fun a26 =>
          clJ (ex 136 4 [pR (some a26), pJ (aJ M6 a23 j24)] M6) fun r27 M25 =>
          if (0 : Int32) = 0 then
            rd l2 7 M25 fun a28 =>
            ix 21 21 (gR M25 449 a28) l4 M25 fun a29 j30 =>
            if lg_cmp r27 (aJ M25 a29 j30) = 0 then
              rn PP 135 18 [some (pR l0), some (pR l1), some (pR l2), some (pR l3), some (pI (l4 + 1)), none, none, none, none, none] [] M25
            else
              zo 0 (some (some (pI 0), M25))
          else
            rd l2 7 M25 fun a31 =>
            ix 21 21 (gR M25 449 a31) l4 M25 fun a32 j33 =>
            rd l0 11 M25 fun a35 =>
            clJ (ex 136 4 [pR (some a35), pJ (aJ M25 a32 j33)] M25) fun r36 M34 =>
            if lg_cmp r27 r36 = 0 then
              rn PP 135 18 [some (pR l0), some (pR l1), some (pR l2), some (pR l3), some (pI (l4 + 1)), none, none, none, none, none] [] M34
            else
              zo 0 (some (some (pI 0), M34))
      else
        if (1 : Int32) = 0 then
          rd l1 7 M6 fun a37 =>
          ix 21 21 (gR M6 449 a37) l4 M6 fun a38 j39 =>
          if (1 : Int32) = 0 then
            rd l2 7 M6 fun a40 =>
            ix 21 21 (gR M6 449 a40) l4 M6 fun a41 j42 =>
            if lg_cmp (aJ M6 a38 j39) (aJ M6 a41 j42) = 0 then
              rn PP 135 18 [some (pR l0), some (pR l1), some (pR l2), some (pR l3), some (pI (l4 + 1)), none, none, none, none, none] [] M6
            else
              zo 0 (some (some (pI 0), M6))
          else
            rd l2 7 M6 fun a43 =>
            ix 21 21 (gR M6 449 a43) l4 M6 fun a44 j45 =>
            rd l0 11 M6 fun a47 =>
            clJ (ex 136 4 [pR (some a47), pJ (aJ M6 a44 j45)] M6) fun r48 M46 =>
            if lg_cmp (aJ M6 a38 j39) r48 = 0 then
              rn PP 135 18 [some (pR l0), some (pR l1), some (pR l2), some (pR l3), some (pI (l4 + 1)), none, none, none, none, none] [] M46
            else
              zo 0 (some (some (pI 0), M46))
        else
          rd l1 7 M6 fun a49 =>
          ix 21 21 (gR M6 449 a49) l4 M6 fun a50 j51 =>
          rd l0 11 M6 fun a53 =>
          clJ (ex 136 4 [pR (some a53), pJ (aJ M6 a50 j51)] M6) fun r54 M52 =>
          if (1 : Int32) = 0 then
            rd l2 7 M52 fun a55 =>
            ix 21 21 (gR M52 449 a55) l4 M52 fun a56 j57 =>
            if lg_cmp r54 (aJ M52 a56 j57) = 0 then
              rn PP 135 18 [some (pR l0), some (pR l1), some (pR l2), some (pR l3), some (pI (l4 + 1)), none, none, none, none, none] [] M52
            else
              zo 0 (some (some (pI 0), M52))
          else
            rd l2 7 M52 fun a58 =>
            ix 21 21 (gR M52 449 a58) l4 M52 fun a59 j60 =>
            rd l0 11 M52 fun a62 =>
            clJ (ex 136 4 [pR (some a62), pJ (aJ M52 a59 j60)] M52) fun r63 M61 =>
            if lg_cmp r54 r63 = 0 then
              rn PP 135 18 [some (pR l0), some (pR l1), some (pR l2), some (pR l3), some (pI (l4 + 1)), none, none, none, none, none] [] M61
            else
              zo 0 (some (some (pI 0), M61))) := (rn_un PP [18] 135 44 18 _ _ M).trans rfl
set_option maxRecDepth 100000 in
set_option maxHeartbeats 4000000 in
theorem tX11_twinOf (r0 : Option Nat) (p0 : Int64) (M : Mem) : ex 136 4 [pR r0, pJ p0] M =
    rd r0 11 M fun a2 =>
    clR (ex 111 3 [pR (some a2), pJ p0] M) fun r3 M1 =>
    if r3 = none then
      some (some (pJ (-1 : Int64)), M1)
    else
      rd r3 7 M1 fun a4 =>
      some (some (pJ ((gI M1 450 a4).toInt64)), M1) := (rn_un PP [] 136 11 0 _ [] M).trans rfl
set_option maxRecDepth 100000 in
set_option maxHeartbeats 4000000 in
theorem tX11_countToKeep (r0 : Option Nat) (p0 : Int32) (M : Mem) : ex 137 5 [pR r0, pI p0] M =
    rn PP 137 2 [some (pR r0), some (pI p0), some (pI 0), none, none] [] M := (rn_un PP [2, 41] 137 4 0 _ [] M).trans rfl
set_option maxRecDepth 100000 in
set_option maxHeartbeats 4000000 in
theorem tX11_countToKeep_2 (l0 : Option Nat) (l1 : Int32) (l2 : Int32) (M : Mem) : rn PP 137 2 [some (pR l0), some (pI l1), some (pI l2), none, none] [] M =
    if l1 < l2 then
      rn PP 137 41 [some (pR l0), none, some (pI 0), some (pI l1), none] [] M
    else
      rd l0 11 M fun a1 =>
      rd (gR M 710 a1) 0 M fun a3 =>
      clR (ex 16 2 [pR (some a3), pI l2] M) fun r4 M2 =>
      ck r4 7 M2
      (if ¬ l2 = l1 then
        rd r4 7 M2 fun a5 =>
        zo 0 (bd (sI M2 452 a5 0) fun M6 =>
        rn PP 137 2 [some (pR l0), some (pI l1), some (pI (l2 + 1)), none, none] [] M6)
      else
        rd r4 7 M2 fun a7 =>
        zo 1 (bd (sI M2 452 a7 1) fun M8 =>
        rn PP 137 2 [some (pR l0), some (pI l1), some (pI (l2 + 1)), none, none] [] M8)) := (rn_un PP [2, 41] 137 18 2 _ _ M).trans rfl
set_option maxRecDepth 100000 in
set_option maxHeartbeats 4000000 in
theorem tX11_countToKeep_41 (l0 : Option Nat) (l2 : Int32) (l3 : Int32) (M : Mem) : rn PP 137 41 [some (pR l0), none, some (pI l2), some (pI l3), none] [] M =
    if l3 < 0 then
      some (some (pI l2), M)
    else
      rd l0 11 M fun a1 =>
      rd (gR M 710 a1) 0 M fun a3 =>
      clR (ex 16 2 [pR (some a3), pI l3] M) fun r4 M2 =>
      ck r4 7 M2
      (rd r4 7 M2 fun a5 =>
      if gI M2 452 a5 = 0 then
        rn PP 137 41 [some (pR l0), none, some (pI l2), some (pI (l3 + (-1))), none] [] M2
      else
        rd r4 7 M2 fun a6 =>
        if gI M2 451 a6 = (-1) then
          rd l0 11 M2 fun a8 =>
          clV (ex 138 5 [pR (some a8), pR r4] M2) fun M7 =>
          rn PP 137 41 [some (pR l0), none, some (pI (l2 + 1)), some (pI (l3 + (-1))), none] [] M7
        else
          rn PP 137 41 [some (pR l0), none, some (pI l2), some (pI (l3 + (-1))), none] [] M2) := (rn_un PP [2, 41] 137 23 41 _ _ M).trans rfl
set_option maxRecDepth 100000 in
set_option maxHeartbeats 4000000 in
theorem tX11_wantParts (r0 : Option Nat) (p0 : Option Nat) (M : Mem) : ex 138 5 [pR r0, pR p0] M =
    rd p0 7 M fun a1 =>
    rd r0 11 M fun a3 =>
    clR (ex 108 2 [pR (some a3), pI (gI M 448 a1)] M) fun r4 M2 =>
    if r4 = none then
      some (none, M2)
    else
      rn PP 138 16 [some (pR r0), some (pR p0), some (pR r4), some (pI 0), none] [] M2 := (rn_un PP [16] 138 11 0 _ [] M).trans rfl
set_option maxRecDepth 100000 in
set_option maxHeartbeats 4000000 in
theorem tX11_wantParts_16 (l0 : Option Nat) (l1 : Option Nat) (l2 : Option Nat) (l3 : Int32) (M : Mem) : rn PP 138 16 [some (pR l0), some (pR l1), some (pR l2), some (pI l3), none] [] M =
    rd l2 9 M fun a1 =>
    rd (gR M 576 a1) 0 M fun a3 =>
    clI (ex 14 1 [pR (some a3)] M) fun r4 M2 =>
    if r4 ≤ l3 then
      some (none, M2)
    else
      rd l2 9 M2 fun a5 =>
      rd (gR M2 576 a5) 0 M2 fun a7 =>
      clR (ex 16 2 [pR (some a7), pI l3] M2) fun r8 M6 =>
      ck r8 8 M6
      (rd r8 8 M6 fun a9 =>
      if ¬ gI M6 513 a9 = 11 then
        if (none : Option Nat) = none then
          rn PP 138 16 [some (pR l0), some (pR l1), some (pR l2), some (pI (l3 + 1)), none] [] M6
        else
          rd (none : Option Nat) 7 M6 fun a10 =>
          zo 1 (bd (sI M6 452 a10 1) fun M11 =>
          rn PP 138 16 [some (pR l0), some (pR l1), some (pR l2), some (pI (l3 + 1)), none] [] M11)
      else
        rd l1 7 M6 fun a12 =>
        ix 21 21 (gR M6 449 a12) l3 M6 fun a13 j14 =>
        rd l0 11 M6 fun a16 =>
        clR (ex 111 3 [pR (some a16), pJ (aJ M6 a13 j14)] M6) fun r17 M15 =>
        if r17 = none then
          rn PP 138 16 [some (pR l0), some (pR l1), some (pR l2), some (pI (l3 + 1)), none] [] M15
        else
          rd r17 7 M15 fun a18 =>
          zo 1 (bd (sI M15 452 a18 1) fun M19 =>
          rn PP 138 16 [some (pR l0), some (pR l1), some (pR l2), some (pI (l3 + 1)), none] [] M19)) := (rn_un PP [16] 138 30 16 _ _ M).trans rfl
set_option maxRecDepth 100000 in
set_option maxHeartbeats 4000000 in
theorem tX11_keepInOrder (r0 : Option Nat) (p0 : Int32) (M : Mem) : ex 139 6 [pR r0, pI p0] M =
    rd r0 11 M fun a1 =>
    ix 20 20 (gR M 720 a1) 0 M fun a2 j3 =>
    bd (wI M a2 j3 p0) fun M4 =>
    rn PP 139 11 [some (pR r0), none, some (pI 1), some (pI 0), none, none] [] M4 := (rn_un PP [11] 139 11 0 _ [] M).trans rfl
set_option maxRecDepth 100000 in
set_option maxHeartbeats 4000000 in
theorem tX11_keepInOrder_11 (l0 : Option Nat) (l2 : Int32) (l3 : Int32) (M : Mem) : rn PP 139 11 [some (pR l0), none, some (pI l2), some (pI l3), none, none] [] M =
    if 128 ≤ l3 then
      some (none, M)
    else
      if l2 ≤ 0 then
        some (none, M)
      else
        rd l0 11 M fun a1 =>
        rd l0 11 M fun a2 =>
        ix 20 30 (gR M 720 a2) (l2 - 1) M fun a3 j4 =>
        rd (gR M 710 a1) 0 M fun a6 =>
        clR (ex 16 2 [pR (some a6), pI (aI M a3 j4)] M) fun r7 M5 =>
        ck r7 7 M5
        (rd l0 11 M5 fun a9 =>
        clI (ex 140 5 [pR (some a9), pR r7] M5) fun r10 M8 =>
        if ¬ r10 = (-1) then
          rd l0 11 M8 fun a11 =>
          al (gR M8 720 a11) M8 fun a12 =>
          if nI (ln M8 a12) ≤ l2 then
            rn PP 139 11 [some (pR l0), none, some (pI l2), some (pI (l3 + 1)), none, none] [] M8
          else
            rd l0 11 M8 fun a13 =>
            ix 20 20 (gR M8 720 a13) l2 M8 fun a14 j15 =>
            bd (wI M8 a14 j15 r10) fun M16 =>
            rn PP 139 11 [some (pR l0), none, some (pI (l2 + 1)), some (pI (l3 + 1)), none, none] [] M16
        else
          rd l0 11 M8 fun a18 =>
          clV (ex 141 5 [pR (some a18), pR r7] M8) fun M17 =>
          rn PP 139 11 [some (pR l0), none, some (pI (l2 + (-1))), some (pI (l3 + 1)), none, none] [] M17) := (rn_un PP [11] 139 38 11 _ _ M).trans rfl
set_option maxRecDepth 100000 in
set_option maxHeartbeats 4000000 in
theorem tX11_firstPartToKeep (r0 : Option Nat) (p0 : Option Nat) (M : Mem) : ex 140 5 [pR r0, pR p0] M =
    rd p0 7 M fun a1 =>
    rd r0 11 M fun a3 =>
    clR (ex 108 2 [pR (some a3), pI (gI M 448 a1)] M) fun r4 M2 =>
    if r4 = none then
      some (some (pI (-1)), M2)
    else
      rn PP 140 17 [some (pR r0), some (pR p0), some (pR r4), some (pI 0), none] [] M2 := (rn_un PP [17] 140 11 0 _ [] M).trans rfl
set_option maxRecDepth 100000 in
set_option maxHeartbeats 4000000 in
theorem tX11_firstPartToKeep_17 (l0 : Option Nat) (l1 : Option Nat) (l2 : Option Nat) (l3 : Int32) (M : Mem) : rn PP 140 17 [some (pR l0), some (pR l1), some (pR l2), some (pI l3), none] [] M =
    rd l2 9 M fun a1 =>
    rd (gR M 576 a1) 0 M fun a3 =>
    clI (ex 14 1 [pR (some a3)] M) fun r4 M2 =>
    if r4 ≤ l3 then
      some (some (pI (-1)), M2)
    else
      rd l2 9 M2 fun a5 =>
      rd (gR M2 576 a5) 0 M2 fun a7 =>
      clR (ex 16 2 [pR (some a7), pI l3] M2) fun r8 M6 =>
      ck r8 8 M6
      (rd r8 8 M6 fun a9 =>
      if ¬ gI M6 513 a9 = 11 then
        if (none : Option Nat) = none then
          rn PP 140 17 [some (pR l0), some (pR l1), some (pR l2), some (pI (l3 + 1)), none] [] M6
        else
          rd (none : Option Nat) 7 M6 fun a10 =>
          if ¬ gI M6 451 a10 = (-1) then
            rn PP 140 17 [some (pR l0), some (pR l1), some (pR l2), some (pI (l3 + 1)), none] [] M6
          else
            rd l1 7 M6 fun a11 =>
            ix 21 21 (gR M6 449 a11) l3 M6 fun a12 j13 =>
            some (some (pI ((aJ M6 a12 j13).toInt32)), M6)
      else
        rd l1 7 M6 fun a14 =>
        ix 21 21 (gR M6 449 a14) l3 M6 fun a15 j16 =>
        rd l0 11 M6 fun a18 =>
        clR (ex 111 3 [pR (some a18), pJ (aJ M6 a15 j16)] M6) fun r19 M17 =>
        if r19 = none then
          rn PP 140 17 [some (pR l0), some (pR l1), some (pR l2), some (pI (l3 + 1)), none] [] M17
        else
          rd r19 7 M17 fun a20 =>
          if ¬ gI M17 451 a20 = (-1) then
            rn PP 140 17 [some (pR l0), some (pR l1), some (pR l2), some (pI (l3 + 1)), none] [] M17
          else
            rd l1 7 M17 fun a21 =>
            ix 21 21 (gR M17 449 a21) l3 M17 fun a22 j23 =>
            some (some (pI ((aJ M17 a22 j23).toInt32)), M17)) := (rn_un PP [17] 140 34 17 _ _ M).trans rfl
set_option maxRecDepth 100000 in
set_option maxHeartbeats 4000000 in
theorem tX11_addLine (r0 : Option Nat) (p0 : Option Nat) (M : Mem) : ex 141 5 [pR r0, pR p0] M =
    rd p0 7 M fun a1 =>
    rd r0 11 M fun a3 =>
    clR (ex 108 2 [pR (some a3), pI (gI M 448 a1)] M) fun r4 M2 =>
    if r4 = none then
      some (none, M2)
    else
      rd r0 11 M2 fun a5 =>
      rd (gR M2 719 a5) 0 M2 fun a7 =>
      clI (ex 14 1 [pR (some a7)] M2) fun r8 M6 =>
      if r8 < 64 then
        rd r4 9 M6 fun a9 =>
        rd (gR M6 576 a9) 0 M6 fun a11 =>
        clI (ex 14 1 [pR (some a11)] M6) fun r12 M10 =>
        gd (¬ r12 < 0 ∧ r12.toNatClampNeg ≤ 60000000)
        (bd (nA M10 24 r12.toNatClampNeg) fun M13 =>
        rn PP 141 40 [some (pR r0), some (pR p0), some (pR r4), some (pR (some (mT M10))), some (pI 0)] [] M13)
      else
        some (none, M6) := (rn_un PP [40] 141 21 0 _ [] M).trans rfl
set_option maxRecDepth 100000 in
set_option maxHeartbeats 4000000 in
theorem tX11_addLine_40 (l0 : Option Nat) (l1 : Option Nat) (l2 : Option Nat) (l3 : Option Nat) (l4 : Int32) (M : Mem) : rn PP 141 40 [some (pR l0), some (pR l1), some (pR l2), some (pR l3), some (pI l4)] [] M =
    al l3 M fun a1 =>
    if nI (ln M a1) ≤ l4 then
      rd l0 11 M fun a2 =>
      rd (gR M 719 a2) 0 M fun a4 =>
      clI (ex 14 1 [pR (some a4)] M) fun r5 M3 =>
      rd l1 7 M3 fun a6 =>
      bd (sI M3 451 a6 r5) fun M7 =>
      rd l0 11 M7 fun a8 =>
      bd (nO M7 6 7) fun M9 =>
      rd l1 7 M9 fun a10 =>
      rd l0 11 M9 fun a11 =>
      rd (some (mT M7)) 6 M9 fun a13 =>
      clV (ex 59 4 [pR (some a13), pI (gI M9 448 a10), pI (gI M9 721 a11), pR l3] M9) fun M12 =>
      rd (gR M7 719 a8) 0 M12 fun a15 =>
      clI (ex 19 2 [pR (some a15), pR (some (mT M7))] M12) fun r16 M14 =>
      some (none, M14)
    else
      rd l2 9 M fun a17 =>
      rd (gR M 576 a17) 0 M fun a19 =>
      clR (ex 16 2 [pR (some a19), pI l4] M) fun r20 M18 =>
      ck r20 8 M18
      (rd l1 7 M18 fun a21 =>
      ix 21 21 (gR M18 449 a21) l4 M18 fun a22 j23 =>
      rd l0 11 M18 fun a25 =>
      clR (ex 142 4 [pR (some a25), pR r20, pJ (aJ M18 a22 j23)] M18) fun r26 M24 =>
      ix 23 24 l3 l4 M24 fun a27 j28 =>
      @ite _ (okSt M24 a27 r26) (okStD M24 a27 r26) (bd (wR M24 a27 j28 r26) fun M29 =>
      rn PP 141 40 [some (pR l0), some (pR l1), some (pR l2), some (pR l3), some (pI (l4 + 1))] [] M29) none) := (rn_un PP [40] 141 23 40 _ _ M).trans rfl
set_option maxRecDepth 100000 in
set_option maxHeartbeats 4000000 in
theorem tX11_keptPart (r0 : Option Nat) (p0 : Option Nat) (p1 : Int64) (M : Mem) : ex 142 4 [pR r0, pR p0, pJ p1] M =
    rd p0 8 M fun a1 =>
    if gI M 513 a1 = Int32.ofInt (8) then
      bd (nO M 5 6) fun M2 =>
      rd p0 8 M2 fun a3 =>
      if ¬ lg_cmp p1 (-1 : Int64) = 0 then
        rd r0 11 M2 fun a5 =>
        clR (ex 145 8 [pR (some a5), pI (gI M2 514 a3), pJ ((1 : Int64) <<< (p1.toInt32.toInt64 &&& 63))] M2) fun r6 M4 =>
        rd (some (mT M)) 5 M4 fun a8 =>
        clV (ex 54 5 [pR (some a8), pR p0, pJ (0 : Int64), pR r6] M4) fun M7 =>
        some (some (pR (some (mT M))), M7)
      else
        rd r0 11 M2 fun a10 =>
        clR (ex 145 8 [pR (some a10), pI (gI M2 514 a3), pJ (0 : Int64)] M2) fun r11 M9 =>
        rd (some (mT M)) 5 M9 fun a13 =>
        clV (ex 54 5 [pR (some a13), pR p0, pJ (0 : Int64), pR r11] M9) fun M12 =>
        some (some (pR (some (mT M))), M12)
    else if gI M 513 a1 = Int32.ofInt (9) then
      bd (nO M 5 6) fun M14 =>
      rd p0 8 M14 fun a15 =>
      rd r0 11 M14 fun a17 =>
      clR (ex 145 8 [pR (some a17), pI (gI M14 514 a15), pJ p1] M14) fun r18 M16 =>
      rd (some (mT M)) 5 M16 fun a20 =>
      clV (ex 54 5 [pR (some a20), pR p0, pJ (0 : Int64), pR r18] M16) fun M19 =>
      some (some (pR (some (mT M))), M19)
    else if gI M 513 a1 = Int32.ofInt (10) then
      rd r0 11 M fun a22 =>
      clR (ex 110 3 [pR (some a22), pJ p1] M) fun r23 M21 =>
      clR (ex 143 2 [pR p0, pR r23] M21) fun r25 M24 =>
      some (some (pR r25), M24)
    else if gI M 513 a1 = Int32.ofInt (11) then
      bd (nO M 5 6) fun M26 =>
      rd r0 11 M26 fun a28 =>
      clR (ex 111 3 [pR (some a28), pJ p1] M26) fun r29 M27 =>
      clI (ex 144 1 [pR r29] M27) fun r31 M30 =>
      rd (some (mT M)) 5 M30 fun a33 =>
      clV (ex 54 5 [pR (some a33), pR p0, pJ r31.toInt64, pR (sR M30 2)] M30) fun M32 =>
      some (some (pR (some (mT M))), M32)
    else 
      bd (nO M 5 6) fun M34 =>
      rd (some (mT M)) 5 M34 fun a36 =>
      clV (ex 54 5 [pR (some a36), pR p0, pJ p1, pR (sR M34 2)] M34) fun M35 =>
      some (some (pR (some (mT M))), M35) := (rn_un PP [] 142 22 0 _ [] M).trans rfl
set_option maxRecDepth 100000 in
set_option maxHeartbeats 4000000 in
theorem tX11_keptRow (p0 : Option Nat) (p1 : Option Nat) (M : Mem) : ex 143 2 [pR p0, pR p1] M =
    if p1 = none then
      bd (nO M 5 6) fun M8 =>
      rd (some (mT M)) 5 M8 fun a10 =>
      clV (ex 54 5 [pR (some a10), pR p0, pJ (-1 : Int64), pR (sR M8 2)] M8) fun M9 =>
      some (some (pR (some (mT M))), M9)
    else
      bd (nO M 5 6) fun M1 =>
      rd p1 10 M1 fun a2 =>
      rd p1 10 M1 fun a3 =>
      clR (ex 25 3 [pR (gR M1 642 a2), pI (gI M1 641 a3)] M1) fun r5 M4 =>
      rd (some (mT M)) 5 M4 fun a7 =>
      clV (ex 54 5 [pR (some a7), pR p0, pJ (0 : Int64), pR r5] M4) fun M6 =>
      some (some (pR (some (mT M))), M6) := (rn_un PP [] 143 14 0 _ [] M).trans rfl
set_option maxRecDepth 100000 in
set_option maxHeartbeats 4000000 in
theorem tX11_lineOf (p0 : Option Nat) (M : Mem) : ex 144 1 [pR p0] M =
    if p0 = none then
      some (some (pI (-1)), M)
    else
      rd p0 7 M fun a1 =>
      some (some (pI (gI M 451 a1)), M) := (rn_un PP [] 144 6 0 _ [] M).trans rfl
set_option maxRecDepth 100000 in
set_option maxHeartbeats 4000000 in
theorem tX11_namesOf (r0 : Option Nat) (p0 : Int32) (p1 : Int64) (M : Mem) : ex 145 8 [pR r0, pI p0, pJ p1] M =
    rd r0 11 M fun a2 =>
    clR (ex 107 2 [pR (some a2), pI p0] M) fun r3 M1 =>
    clI (ex 6 2 [pJ p1] M1) fun r5 M4 =>
    gd (¬ r5 < 0 ∧ r5.toNatClampNeg ≤ 60000000)
    (bd (nA M4 21 r5.toNatClampNeg) fun M6 =>
    rn PP 145 21 [none, none, some (pJ p1), none, some (pR r3), some (pR (some (mT M4))), some (pI 0), some (pI 0)] [] M6) := (rn_un PP [21] 145 14 0 _ [] M).trans rfl
set_option maxRecDepth 100000 in
set_option maxHeartbeats 4000000 in
theorem tX11_namesOf_21 (l2 : Int64) (l4 : Option Nat) (l5 : Option Nat) (l6 : Int32) (l7 : Int32) (M : Mem) : rn PP 145 21 [none, none, some (pJ l2), none, some (pR l4), some (pR l5), some (pI l6), some (pI l7)] [] M =
    if l4 = none then
      some (some (pR l5), M)
    else
      rd l4 3 M fun a1 =>
      rd (gR M 192 a1) 0 M fun a3 =>
      clI (ex 14 1 [pR (some a3)] M) fun r4 M2 =>
      if r4 ≤ l7 then
        some (some (pR l5), M2)
      else
        if lg_cmp ((l2 >>> (l7.toInt64 &&& 63)) &&& (1 : Int64)) (0 : Int64) = 0 then
          rn PP 145 21 [none, none, some (pJ l2), none, some (pR l4), some (pR l5), some (pI l6), some (pI (l7 + 1))] [] M2
        else
          al l5 M2 fun a5 =>
          if nI (ln M2 a5) ≤ l6 then
            rn PP 145 21 [none, none, some (pJ l2), none, some (pR l4), some (pR l5), some (pI l6), some (pI (l7 + 1))] [] M2
          else
            rd l4 3 M2 fun a6 =>
            rd (gR M2 192 a6) 0 M2 fun a8 =>
            clR (ex 16 2 [pR (some a8), pI l7] M2) fun r9 M7 =>
            ck r9 2 M7
            (rd r9 2 M7 fun a10 =>
            ix 21 21 l5 l6 M7 fun a11 j12 =>
            bd (wJ M7 a11 j12 (gJ M7 128 a10)) fun M13 =>
            rn PP 145 21 [none, none, some (pJ l2), none, some (pR l4), some (pR l5), some (pI (l6 + 1)), some (pI (l7 + 1))] [] M13) := (rn_un PP [21] 145 33 21 _ _ M).trans rfl
set_option maxRecDepth 100000 in
set_option maxHeartbeats 4000000 in
theorem tX11_loadInOrder (r0 : Option Nat) (p0 : Int32) (M : Mem) : ex 146 11 [pR r0, pI p0] M =
    rd r0 11 M fun a1 =>
    ix 20 20 (gR M 720 a1) 0 M fun a2 j3 =>
    bd (wI M a2 j3 p0) fun M4 =>
    rd r0 11 M4 fun a5 =>
    rd (gR M4 719 a5) 0 M4 fun a7 =>
    clR (ex 16 2 [pR (some a7), pI p0] M4) fun r8 M6 =>
    ck r8 6 M6
    (rd r8 6 M6 fun a9 =>
    bd (sI M6 388 a9 0) fun M10 =>
    rn PP 146 31 [some (pR r0), some (pI p0), some (pI 1), some (pI 512), some (pI 0), none, none, none, none, none, none] [] M10) := (rn_un PP [31] 146 20 0 _ [] M).trans rfl
set_option maxRecDepth 100000 in
set_option maxHeartbeats 4000000 in
theorem tX11_loadInOrder_31 (l0 : Option Nat) (l1 : Int32) (l2 : Int32) (l3 : Int32) (l4 : Int32) (M : Mem) : rn PP 146 31 [some (pR l0), some (pI l1), some (pI l2), some (pI l3), some (pI l4), none, none, none, none, none, none] [] M =
    if l3 ≤ l4 then
      rd l0 11 M fun a1 =>
      rd (gR M 719 a1) 0 M fun a3 =>
      clR (ex 16 2 [pR (some a3), pI l1] M) fun r4 M2 =>
      ck r4 6 M2
      (rd r4 6 M2 fun a5 =>
      some (some (pI (gI M2 389 a5)), M2))
    else
      if l2 ≤ 0 then
        rd l0 11 M fun a6 =>
        rd (gR M 719 a6) 0 M fun a8 =>
        clR (ex 16 2 [pR (some a8), pI l1] M) fun r9 M7 =>
        ck r9 6 M7
        (rd r9 6 M7 fun a10 =>
        some (some (pI (gI M7 389 a10)), M7))
      else
        rd l0 11 M fun a11 =>
        ix 20 30 (gR M 720 a11) (l2 - 1) M fun a12 j13 =>
        rd l0 11 M fun a14 =>
        rd (gR M 719 a14) 0 M fun a16 =>
        clR (ex 16 2 [pR (some a16), pI (aI M a12 j13)] M) fun r17 M15 =>
        ck r17 6 M15
        (rd r17 6 M15 fun a18 =>
        rd l0 11 M15 fun a20 =>
        clR (ex 108 2 [pR (some a20), pI (gI M15 384 a18)] M15) fun r21 M19 =>
        if r21 = none then
          if (none : Option Nat) = none then
            if ((-1) : Int32) = (-1) then
              if (none : Option Nat) = none then
                rd r17 6 M19 fun a145 =>
                rd r17 6 M19 fun a146 =>
                rd l0 11 M19 fun a148 =>
                clI (ex 126 9 [pR (some a148), pI (gI M19 384 a145), pR (gR M19 387 a146), pI (aI M a12 j13)] M19) fun r149 M147 =>
                if 0 ≤ r149 then
                  if (none : Option Nat) = none then
                    rd r17 6 M147 fun a150 =>
                    bd (sI M147 389 a150 r149) fun M151 =>
                    rn PP 146 31 [some (pR l0), some (pI l1), some (pI (l2 + (-1))), some (pI l3), some (pI (l4 + 1)), none, none, none, none, none, none] [] M151
                  else
                    rn PP 146 31 [some (pR l0), some (pI l1), some (pI l2), some (pI l3), some (pI (l4 + 1)), none, none, none, none, none, none] [] M147
                else
                  some (some (pI r149), M147)
              else
                rd l0 11 M19 fun a141 =>
                clI (ex 148 7 [pR (some a141), pI (aI M a12 j13), pR r17, pR (none : Option Nat)] M19) fun r142 M140 =>
                if 0 ≤ r142 then
                  if (none : Option Nat) = none then
                    rd r17 6 M140 fun a143 =>
                    bd (sI M140 389 a143 r142) fun M144 =>
                    rn PP 146 31 [some (pR l0), some (pI l1), some (pI (l2 + (-1))), some (pI l3), some (pI (l4 + 1)), none, none, none, none, none, none] [] M144
                  else
                    rn PP 146 31 [some (pR l0), some (pI l1), some (pI l2), some (pI l3), some (pI (l4 + 1)), none, none, none, none, none, none] [] M140
                else
                  some (some (pI r142), M140)
            else
              rd l0 11 M19 fun a152 =>
              al (gR M19 720 a152) M19 fun a153 =>
              if nI (ln M19 a153) ≤ l2 then
                if (none : Option Nat) = none then
                  rd r17 6 M19 fun a159 =>
                  rd r17 6 M19 fun a160 =>
                  rd l0 11 M19 fun a162 =>
                  clI (ex 126 9 [pR (some a162), pI (gI M19 384 a159), pR (gR M19 387 a160), pI (aI M a12 j13)] M19) fun r163 M161 =>
                  if 0 ≤ r163 then
                    if (none : Option Nat) = none then
                      rd r17 6 M161 fun a164 =>
                      bd (sI M161 389 a164 r163) fun M165 =>
                      rn PP 146 31 [some (pR l0), some (pI l1), some (pI (l2 + (-1))), some (pI l3), some (pI (l4 + 1)), none, none, none, none, none, none] [] M165
                    else
                      rn PP 146 31 [some (pR l0), some (pI l1), some (pI l2), some (pI l3), some (pI (l4 + 1)), none, none, none, none, none, none] [] M161
                  else
                    some (some (pI r163), M161)
                else
                  rd l0 11 M19 fun a155 =>
                  clI (ex 148 7 [pR (some a155), pI (aI M a12 j13), pR r17, pR (none : Option Nat)] M19) fun r156 M154 =>
                  if 0 ≤ r156 then
                    if (none : Option Nat) = none then
                      rd r17 6 M154 fun a157 =>
                      bd (sI M154 389 a157 r156) fun M158 =>
                      rn PP 146 31 [some (pR l0), some (pI l1), some (pI (l2 + (-1))), some (pI l3), some (pI (l4 + 1)), none, none, none, none, none, none] [] M158
                    else
                      rn PP 146 31 [some (pR l0), some (pI l1), some (pI l2), some (pI l3), some (pI (l4 + 1)), none, none, none, none, none, none] [] M154
                  else
                    some (some (pI r156), M154)
              else
                rd l0 11 M19 fun a166 =>
                rd (gR M19 719 a166) 0 M19 fun a168 =>
                clR (ex 16 2 [pR (some a168), pI (-1)] M19) fun r169 M167 =>
                ck r169 6 M167
                (rd r169 6 M167 fun a170 =>
                bd (sI M167 388 a170 0) fun M171 =>
                rd l0 11 M171 fun a172 =>
                ix 20 20 (gR M171 720 a172) l2 M171 fun a173 j174 =>
                bd (wI M171 a173 j174 (-1)) fun M175 =>
                rn PP 146 31 [some (pR l0), some (pI l1), some (pI (l2 + 1)), some (pI l3), some (pI (l4 + 1)), none, none, none, none, none, none] [] M175)
          else
            rd l0 11 M19 fun a102 =>
            clI (ex 147 5 [pR (some a102), pR r17, pR (none : Option Nat)] M19) fun r103 M101 =>
            if r103 = (-1) then
              if (none : Option Nat) = none then
                rd r17 6 M101 fun a109 =>
                rd r17 6 M101 fun a110 =>
                rd l0 11 M101 fun a112 =>
                clI (ex 126 9 [pR (some a112), pI (gI M101 384 a109), pR (gR M101 387 a110), pI (aI M a12 j13)] M101) fun r113 M111 =>
                if 0 ≤ r113 then
                  if (none : Option Nat) = none then
                    rd r17 6 M111 fun a114 =>
                    bd (sI M111 389 a114 r113) fun M115 =>
                    rn PP 146 31 [some (pR l0), some (pI l1), some (pI (l2 + (-1))), some (pI l3), some (pI (l4 + 1)), none, none, none, none, none, none] [] M115
                  else
                    rn PP 146 31 [some (pR l0), some (pI l1), some (pI l2), some (pI l3), some (pI (l4 + 1)), none, none, none, none, none, none] [] M111
                else
                  some (some (pI r113), M111)
              else
                rd l0 11 M101 fun a105 =>
                clI (ex 148 7 [pR (some a105), pI (aI M a12 j13), pR r17, pR (none : Option Nat)] M101) fun r106 M104 =>
                if 0 ≤ r106 then
                  if (none : Option Nat) = none then
                    rd r17 6 M104 fun a107 =>
                    bd (sI M104 389 a107 r106) fun M108 =>
                    rn PP 146 31 [some (pR l0), some (pI l1), some (pI (l2 + (-1))), some (pI l3), some (pI (l4 + 1)), none, none, none, none, none, none] [] M108
                  else
                    rn PP 146 31 [some (pR l0), some (pI l1), some (pI l2), some (pI l3), some (pI (l4 + 1)), none, none, none, none, none, none] [] M104
                else
                  some (some (pI r106), M104)
            else
              rd l0 11 M101 fun a116 =>
              al (gR M101 720 a116) M101 fun a117 =>
              if nI (ln M101 a117) ≤ l2 then
                if (none : Option Nat) = none then
                  rd r17 6 M101 fun a123 =>
                  rd r17 6 M101 fun a124 =>
                  rd l0 11 M101 fun a126 =>
                  clI (ex 126 9 [pR (some a126), pI (gI M101 384 a123), pR (gR M101 387 a124), pI (aI M a12 j13)] M101) fun r127 M125 =>
                  if 0 ≤ r127 then
                    if (none : Option Nat) = none then
                      rd r17 6 M125 fun a128 =>
                      bd (sI M125 389 a128 r127) fun M129 =>
                      rn PP 146 31 [some (pR l0), some (pI l1), some (pI (l2 + (-1))), some (pI l3), some (pI (l4 + 1)), none, none, none, none, none, none] [] M129
                    else
                      rn PP 146 31 [some (pR l0), some (pI l1), some (pI l2), some (pI l3), some (pI (l4 + 1)), none, none, none, none, none, none] [] M125
                  else
                    some (some (pI r127), M125)
                else
                  rd l0 11 M101 fun a119 =>
                  clI (ex 148 7 [pR (some a119), pI (aI M a12 j13), pR r17, pR (none : Option Nat)] M101) fun r120 M118 =>
                  if 0 ≤ r120 then
                    if (none : Option Nat) = none then
                      rd r17 6 M118 fun a121 =>
                      bd (sI M118 389 a121 r120) fun M122 =>
                      rn PP 146 31 [some (pR l0), some (pI l1), some (pI (l2 + (-1))), some (pI l3), some (pI (l4 + 1)), none, none, none, none, none, none] [] M122
                    else
                      rn PP 146 31 [some (pR l0), some (pI l1), some (pI l2), some (pI l3), some (pI (l4 + 1)), none, none, none, none, none, none] [] M118
                  else
                    some (some (pI r120), M118)
              else
                rd l0 11 M101 fun a130 =>
                rd (gR M101 719 a130) 0 M101 fun a132 =>
                clR (ex 16 2 [pR (some a132), pI r103] M101) fun r133 M131 =>
                ck r133 6 M131
                (rd r133 6 M131 fun a134 =>
                bd (sI M131 388 a134 0) fun M135 =>
                rd l0 11 M135 fun a136 =>
                ix 20 20 (gR M135 720 a136) l2 M135 fun a137 j138 =>
                bd (wI M135 a137 j138 r103) fun M139 =>
                rn PP 146 31 [some (pR l0), some (pI l1), some (pI (l2 + 1)), some (pI l3), some (pI (l4 + 1)), none, none, none, none, none, none] [] M139)
        else
          rd r17 6 M19 fun a22 =>
          rd r21 9 M19 fun a24 =>
          clR (ex 65 2 [pR (some a24), pI (gI M19 388 a22)] M19) fun r25 M23 =>
          if r25 = none then
            if ((-1) : Int32) = (-1) then
              if r25 = none then
                rd r17 6 M23 fun a70 =>
                rd r17 6 M23 fun a71 =>
                rd l0 11 M23 fun a73 =>
                clI (ex 126 9 [pR (some a73), pI (gI M23 384 a70), pR (gR M23 387 a71), pI (aI M a12 j13)] M23) fun r74 M72 =>
                if 0 ≤ r74 then
                  if r25 = none then
                    rd r17 6 M72 fun a75 =>
                    bd (sI M72 389 a75 r74) fun M76 =>
                    rn PP 146 31 [some (pR l0), some (pI l1), some (pI (l2 + (-1))), some (pI l3), some (pI (l4 + 1)), none, none, none, none, none, none] [] M76
                  else
                    rn PP 146 31 [some (pR l0), some (pI l1), some (pI l2), some (pI l3), some (pI (l4 + 1)), none, none, none, none, none, none] [] M72
                else
                  some (some (pI r74), M72)
              else
                rd l0 11 M23 fun a66 =>
                clI (ex 148 7 [pR (some a66), pI (aI M a12 j13), pR r17, pR r25] M23) fun r67 M65 =>
                if 0 ≤ r67 then
                  if r25 = none then
                    rd r17 6 M65 fun a68 =>
                    bd (sI M65 389 a68 r67) fun M69 =>
                    rn PP 146 31 [some (pR l0), some (pI l1), some (pI (l2 + (-1))), some (pI l3), some (pI (l4 + 1)), none, none, none, none, none, none] [] M69
                  else
                    rn PP 146 31 [some (pR l0), some (pI l1), some (pI l2), some (pI l3), some (pI (l4 + 1)), none, none, none, none, none, none] [] M65
                else
                  some (some (pI r67), M65)
            else
              rd l0 11 M23 fun a77 =>
              al (gR M23 720 a77) M23 fun a78 =>
              if nI (ln M23 a78) ≤ l2 then
                if r25 = none then
                  rd r17 6 M23 fun a84 =>
                  rd r17 6 M23 fun a85 =>
                  rd l0 11 M23 fun a87 =>
                  clI (ex 126 9 [pR (some a87), pI (gI M23 384 a84), pR (gR M23 387 a85), pI (aI M a12 j13)] M23) fun r88 M86 =>
                  if 0 ≤ r88 then
                    if r25 = none then
                      rd r17 6 M86 fun a89 =>
                      bd (sI M86 389 a89 r88) fun M90 =>
                      rn PP 146 31 [some (pR l0), some (pI l1), some (pI (l2 + (-1))), some (pI l3), some (pI (l4 + 1)), none, none, none, none, none, none] [] M90
                    else
                      rn PP 146 31 [some (pR l0), some (pI l1), some (pI l2), some (pI l3), some (pI (l4 + 1)), none, none, none, none, none, none] [] M86
                  else
                    some (some (pI r88), M86)
                else
                  rd l0 11 M23 fun a80 =>
                  clI (ex 148 7 [pR (some a80), pI (aI M a12 j13), pR r17, pR r25] M23) fun r81 M79 =>
                  if 0 ≤ r81 then
                    if r25 = none then
                      rd r17 6 M79 fun a82 =>
                      bd (sI M79 389 a82 r81) fun M83 =>
                      rn PP 146 31 [some (pR l0), some (pI l1), some (pI (l2 + (-1))), some (pI l3), some (pI (l4 + 1)), none, none, none, none, none, none] [] M83
                    else
                      rn PP 146 31 [some (pR l0), some (pI l1), some (pI l2), some (pI l3), some (pI (l4 + 1)), none, none, none, none, none, none] [] M79
                  else
                    some (some (pI r81), M79)
              else
                rd l0 11 M23 fun a91 =>
                rd (gR M23 719 a91) 0 M23 fun a93 =>
                clR (ex 16 2 [pR (some a93), pI (-1)] M23) fun r94 M92 =>
                ck r94 6 M92
                (rd r94 6 M92 fun a95 =>
                bd (sI M92 388 a95 0) fun M96 =>
                rd l0 11 M96 fun a97 =>
                ix 20 20 (gR M96 720 a97) l2 M96 fun a98 j99 =>
                bd (wI M96 a98 j99 (-1)) fun M100 =>
                rn PP 146 31 [some (pR l0), some (pI l1), some (pI (l2 + 1)), some (pI l3), some (pI (l4 + 1)), none, none, none, none, none, none] [] M100)
          else
            rd l0 11 M23 fun a27 =>
            clI (ex 147 5 [pR (some a27), pR r17, pR r25] M23) fun r28 M26 =>
            if r28 = (-1) then
              if r25 = none then
                rd r17 6 M26 fun a34 =>
                rd r17 6 M26 fun a35 =>
                rd l0 11 M26 fun a37 =>
                clI (ex 126 9 [pR (some a37), pI (gI M26 384 a34), pR (gR M26 387 a35), pI (aI M a12 j13)] M26) fun r38 M36 =>
                if 0 ≤ r38 then
                  if r25 = none then
                    rd r17 6 M36 fun a39 =>
                    bd (sI M36 389 a39 r38) fun M40 =>
                    rn PP 146 31 [some (pR l0), some (pI l1), some (pI (l2 + (-1))), some (pI l3), some (pI (l4 + 1)), none, none, none, none, none, none] [] M40
                  else
                    rn PP 146 31 [some (pR l0), some (pI l1), some (pI l2), some (pI l3), some (pI (l4 + 1)), none, none, none, none, none, none] [] M36
                else
                  some (some (pI r38), M36)
              else
                rd l0 11 M26 fun a30 =>
                clI (ex 148 7 [pR (some a30), pI (aI M a12 j13), pR r17, pR r25] M26) fun r31 M29 =>
                if 0 ≤ r31 then
                  if r25 = none then
                    rd r17 6 M29 fun a32 =>
                    bd (sI M29 389 a32 r31) fun M33 =>
                    rn PP 146 31 [some (pR l0), some (pI l1), some (pI (l2 + (-1))), some (pI l3), some (pI (l4 + 1)), none, none, none, none, none, none] [] M33
                  else
                    rn PP 146 31 [some (pR l0), some (pI l1), some (pI l2), some (pI l3), some (pI (l4 + 1)), none, none, none, none, none, none] [] M29
                else
                  some (some (pI r31), M29)
            else
              rd l0 11 M26 fun a41 =>
              al (gR M26 720 a41) M26 fun a42 =>
              if nI (ln M26 a42) ≤ l2 then
                if r25 = none then
                  rd r17 6 M26 fun a48 =>
                  rd r17 6 M26 fun a49 =>
                  rd l0 11 M26 fun a51 =>
                  clI (ex 126 9 [pR (some a51), pI (gI M26 384 a48), pR (gR M26 387 a49), pI (aI M a12 j13)] M26) fun r52 M50 =>
                  if 0 ≤ r52 then
                    if r25 = none then
                      rd r17 6 M50 fun a53 =>
                      bd (sI M50 389 a53 r52) fun M54 =>
                      rn PP 146 31 [some (pR l0), some (pI l1), some (pI (l2 + (-1))), some (pI l3), some (pI (l4 + 1)), none, none, none, none, none, none] [] M54
                    else
                      rn PP 146 31 [some (pR l0), some (pI l1), some (pI l2), some (pI l3), some (pI (l4 + 1)), none, none, none, none, none, none] [] M50
                  else
                    some (some (pI r52), M50)
                else
                  rd l0 11 M26 fun a44 =>
                  clI (ex 148 7 [pR (some a44), pI (aI M a12 j13), pR r17, pR r25] M26) fun r45 M43 =>
                  if 0 ≤ r45 then
                    if r25 = none then
                      rd r17 6 M43 fun a46 =>
                      bd (sI M43 389 a46 r45) fun M47 =>
                      rn PP 146 31 [some (pR l0), some (pI l1), some (pI (l2 + (-1))), some (pI l3), some (pI (l4 + 1)), none, none, none, none, none, none] [] M47
                    else
                      rn PP 146 31 [some (pR l0), some (pI l1), some (pI l2), some (pI l3), some (pI (l4 + 1)), none, none, none, none, none, none] [] M43
                  else
                    some (some (pI r45), M43)
              else
                rd l0 11 M26 fun a55 =>
                rd (gR M26 719 a55) 0 M26 fun a57 =>
                clR (ex 16 2 [pR (some a57), pI r28] M26) fun r58 M56 =>
                ck r58 6 M56
                (rd r58 6 M56 fun a59 =>
                bd (sI M56 388 a59 0) fun M60 =>
                rd l0 11 M60 fun a61 =>
                ix 20 20 (gR M60 720 a61) l2 M60 fun a62 j63 =>
                bd (wI M60 a62 j63 r28) fun M64 =>
                rn PP 146 31 [some (pR l0), some (pI l1), some (pI (l2 + 1)), some (pI l3), some (pI (l4 + 1)), none, none, none, none, none, none] [] M64)) := (rn_un PP [31] 146 68 31 _ _ M).trans rfl
set_option maxRecDepth 100000 in
set_option maxHeartbeats 4000000 in
theorem tX11_lineAhead (r0 : Option Nat) (p0 : Option Nat) (p1 : Option Nat) (M : Mem) : ex 147 5 [pR r0, pR p0, pR p1] M =
    rd p1 8 M fun a1 =>
    rd p0 6 M fun a3 =>
    clR (ex 60 4 [pR (some a3), pJ (gJ M 512 a1)] M) fun r4 M2 =>
    if r4 = none then
      some (some (pI (-1)), M2)
    else
      rd r4 5 M2 fun a5 =>
      if ¬ gI M2 321 a5 = 11 then
        some (some (pI (-1)), M2)
      else
        rd p1 8 M2 fun a6 =>
        if gI M2 513 a6 = 11 then
          rd r4 5 M2 fun a7 =>
          rd r0 11 M2 fun a9 =>
          clR (ex 112 3 [pR (some a9), pJ (gJ M2 323 a7)] M2) fun r10 M8 =>
          if r10 = none then
            some (some (pI (-1)), M8)
          else
            rd r10 6 M8 fun a11 =>
            if gI M8 389 a11 = (-1) then
              rd r4 5 M8 fun a12 =>
              some (some (pI ((gJ M8 323 a12).toInt32)), M8)
            else
              some (some (pI (-1)), M8)
        else
          some (some (pI (-1)), M2) := (rn_un PP [] 147 31 0 _ [] M).trans rfl
set_option maxRecDepth 100000 in
set_option maxHeartbeats 4000000 in
theorem tX11_fillPart (r0 : Option Nat) (p0 : Int32) (p1 : Option Nat) (p2 : Option Nat) (M : Mem) : ex 148 7 [pR r0, pI p0, pR p1, pR p2] M =
    rd p1 6 M fun a1 =>
    rd p2 8 M fun a2 =>
    rd p1 6 M fun a4 =>
    clR (ex 60 4 [pR (some a4), pJ (gJ M 512 a2)] M) fun r5 M3 =>
    if r5 = none then
      rd p1 6 M3 fun a36 =>
      rd p2 8 M3 fun a37 =>
      ix 21 21 (gR M3 387 a36) (gI M 388 a1) M3 fun a38 j39 =>
      bd (wJ M3 a38 j39 (gJ M3 515 a37)) fun M40 =>
      if (0 : Int32) = 0 then
        rd p1 6 M40 fun a41 =>
        rd p1 6 M40 fun a42 =>
        bd (sI M40 388 a42 (gI M40 388 a41 + 1)) fun M43 =>
        some (some (pI 0), M43)
      else
        rd p1 6 M40 fun a44 =>
        rd r0 11 M40 fun a46 =>
        clI (ex 127 6 [pR (some a46), pI 0, pI (gI M40 384 a44), pI (gI M 388 a1), pI (-1), pI p0] M40) fun r47 M45 =>
        some (some (pI r47), M45)
    else
      rd r5 5 M3 fun a7 =>
      clI (ex 58 3 [pR (some a7), pR p2] M3) fun r8 M6 =>
      if ¬ r8 = 0 then
        rd p1 6 M6 fun a9 =>
        rd r0 11 M6 fun a11 =>
        clJ (ex 149 3 [pR (some a11), pR r5, pR p2] M6) fun r12 M10 =>
        ix 21 21 (gR M6 387 a9) (gI M 388 a1) M10 fun a13 j14 =>
        bd (wJ M10 a13 j14 r12) fun M15 =>
        rd p1 6 M15 fun a16 =>
        ix 21 21 (gR M15 387 a16) (gI M 388 a1) M15 fun a17 j18 =>
        rd r0 11 M15 fun a20 =>
        clI (ex 150 6 [pR (some a20), pR r5, pR p2, pJ (aJ M15 a17 j18)] M15) fun r21 M19 =>
        if r21 = 0 then
          rd p1 6 M19 fun a22 =>
          rd p1 6 M19 fun a23 =>
          bd (sI M19 388 a23 (gI M19 388 a22 + 1)) fun M24 =>
          some (some (pI 0), M24)
        else
          rd p1 6 M19 fun a25 =>
          rd r0 11 M19 fun a27 =>
          clI (ex 127 6 [pR (some a27), pI r21, pI (gI M19 384 a25), pI (gI M 388 a1), pI (-1), pI p0] M19) fun r28 M26 =>
          some (some (pI r28), M26)
      else
        if (6 : Int32) = 0 then
          rd p1 6 M6 fun a29 =>
          rd p1 6 M6 fun a30 =>
          bd (sI M6 388 a30 (gI M6 388 a29 + 1)) fun M31 =>
          some (some (pI 0), M31)
        else
          rd p1 6 M6 fun a32 =>
          rd r0 11 M6 fun a34 =>
          clI (ex 127 6 [pR (some a34), pI 6, pI (gI M6 384 a32), pI (gI M 388 a1), pI (-1), pI p0] M6) fun r35 M33 =>
          some (some (pI r35), M33) := (rn_un PP [] 148 45 0 _ [] M).trans rfl
set_option maxRecDepth 100000 in
set_option maxHeartbeats 4000000 in
theorem tX11_valueNow (r0 : Option Nat) (p0 : Option Nat) (p1 : Option Nat) (M : Mem) : ex 149 3 [pR r0, pR p0, pR p1] M =
    rd p1 8 M fun a1 =>
    if gI M 513 a1 = Int32.ofInt (8) then
      rd p1 8 M fun a2 =>
      rd r0 11 M fun a4 =>
      clJ (ex 151 4 [pR (some a4), pR p0, pI (gI M 514 a2)] M) fun r5 M3 =>
      some (some (pJ r5), M3)
    else if gI M 513 a1 = Int32.ofInt (9) then
      rd p1 8 M fun a6 =>
      rd r0 11 M fun a8 =>
      clJ (ex 152 8 [pR (some a8), pR p0, pI (gI M 514 a6)] M) fun r9 M7 =>
      some (some (pJ r9), M7)
    else if gI M 513 a1 = Int32.ofInt (10) then
      rd r0 11 M fun a11 =>
      clJ (ex 153 2 [pR (some a11), pR p0] M) fun r12 M10 =>
      some (some (pJ r12), M10)
    else if gI M 513 a1 = Int32.ofInt (11) then
      rd r0 11 M fun a14 =>
      clJ (ex 154 3 [pR (some a14), pR p0] M) fun r15 M13 =>
      some (some (pJ r15), M13)
    else 
      rd p0 5 M fun a16 =>
      rd p1 8 M fun a17 =>
      rd p0 5 M fun a18 =>
      clJ (ex 33 4 [pI (gI M 321 a16), pI (gI M 513 a17), pJ (gJ M 323 a18)] M) fun r20 M19 =>
      some (some (pJ r20), M19) := (rn_un PP [] 149 12 0 _ [] M).trans rfl
set_option maxRecDepth 100000 in
set_option maxHeartbeats 4000000 in
theorem tX11_thrownByFilling (r0 : Option Nat) (p0 : Option Nat) (p1 : Option Nat) (p2 : Int64) (M : Mem) : ex 150 6 [pR r0, pR p0, pR p1, pJ p2] M =
    rd p1 8 M fun a1 =>
    if ¬ gI M 513 a1 = 8 then
      rd p1 8 M fun a2 =>
      if gI M 513 a2 = 11 then
        rd r0 11 M fun a4 =>
        clR (ex 111 3 [pR (some a4), pJ p2] M) fun r5 M3 =>
        if r5 = none then
          some (some (pI 0), M3)
        else
          rd p1 8 M3 fun a6 =>
          rd r0 11 M3 fun a8 =>
          clI (ex 125 4 [pR (some a8), pR r5, pI (gI M3 514 a6)] M3) fun r9 M7 =>
          if r9 = 0 then
            some (some (pI 6), M7)
          else
            some (some (pI 0), M7)
      else
        some (some (pI 0), M)
    else
      rd p0 5 M fun a10 =>
      al (gR M 324 a10) M fun a11 =>
      if nI (ln M a11) ≤ 0 then
        some (some (pI 0), M)
      else
        if ¬ lg_cmp p2 (-1 : Int64) = 0 then
          some (some (pI 0), M)
        else
          some (some (pI 8), M) := (rn_un PP [] 150 24 0 _ [] M).trans rfl
set_option maxRecDepth 100000 in
set_option maxHeartbeats 4000000 in
theorem tX11_ordinalNow (r0 : Option Nat) (p0 : Option Nat) (p1 : Int32) (M : Mem) : ex 151 4 [pR r0, pR p0, pI p1] M =
    rd r0 11 M fun a2 =>
    clR (ex 107 2 [pR (some a2), pI p1] M) fun r3 M1 =>
    if r3 = none then
      some (some (pJ (-1 : Int64)), M1)
    else
      rd p0 5 M1 fun a4 =>
      al (gR M1 324 a4) M1 fun a5 =>
      if ¬ nI (ln M1 a5) = 0 then
        rd p0 5 M1 fun a6 =>
        ix 21 21 (gR M1 324 a6) 0 M1 fun a7 j8 =>
        rd r3 3 M1 fun a10 =>
        clI (ex 47 4 [pR (some a10), pJ (aJ M1 a7 j8)] M1) fun r11 M9 =>
        some (some (pJ r11.toInt64), M9)
      else
        some (some (pJ (-1 : Int64)), M1) := (rn_un PP [] 151 19 0 _ [] M).trans rfl
set_option maxRecDepth 100000 in
set_option maxHeartbeats 4000000 in
theorem tX11_setNow (r0 : Option Nat) (p0 : Option Nat) (p1 : Int32) (M : Mem) : ex 152 8 [pR r0, pR p0, pI p1] M =
    rd r0 11 M fun a2 =>
    clR (ex 107 2 [pR (some a2), pI p1] M) fun r3 M1 =>
    rn PP 152 12 [some (pR r0), some (pR p0), none, some (pR r3), some (pJ (0 : Int64)), none, some (pI 0), none] [] M1 := (rn_un PP [12] 152 10 0 _ [] M).trans rfl
set_option maxRecDepth 100000 in
set_option maxHeartbeats 4000000 in
theorem tX11_setNow_12 (l0 : Option Nat) (l1 : Option Nat) (l3 : Option Nat) (l4 : Int64) (l6 : Int32) (M : Mem) : rn PP 152 12 [some (pR l0), some (pR l1), none, some (pR l3), some (pJ l4), none, some (pI l6), none] [] M =
    if l3 = none then
      some (some (pJ l4), M)
    else
      rd l1 5 M fun a1 =>
      al (gR M 324 a1) M fun a2 =>
      if nI (ln M a2) ≤ l6 then
        some (some (pJ l4), M)
      else
        rd l1 5 M fun a3 =>
        ix 21 21 (gR M 324 a3) l6 M fun a4 j5 =>
        rd l3 3 M fun a7 =>
        clI (ex 47 4 [pR (some a7), pJ (aJ M a4 j5)] M) fun r8 M6 =>
        if ¬ r8 = (-1) then
          rn PP 152 12 [some (pR l0), some (pR l1), none, some (pR l3), some (pJ (l4 ||| ((1 : Int64) <<< (r8.toInt64 &&& 63)))), none, some (pI (l6 + 1)), none] [] M6
        else
          rd l0 11 M6 fun a9 =>
          rd l0 11 M6 fun a10 =>
          bd (sI M6 722 a10 (gI M6 722 a9 + 1)) fun M11 =>
          rn PP 152 12 [some (pR l0), some (pR l1), none, some (pR l3), some (pJ l4), none, some (pI (l6 + 1)), none] [] M11 := (rn_un PP [12] 152 28 12 _ _ M).trans rfl
set_option maxRecDepth 100000 in
set_option maxHeartbeats 4000000 in
theorem tX11_rowNow (r0 : Option Nat) (p0 : Option Nat) (M : Mem) : ex 153 2 [pR r0, pR p0] M =
    rd p0 5 M fun a1 =>
    if ¬ lg_cmp (gJ M 323 a1) (-1 : Int64) = 0 then
      rd p0 5 M fun a2 =>
      if ¬ gI M 325 a2 = (-1) then
        rd p0 5 M fun a3 =>
        some (some (pJ ((gI M 325 a3).toInt64)), M)
      else
        rd p0 5 M fun a4 =>
        rd p0 5 M fun a5 =>
        al (gR M 324 a5) M fun a6 =>
        rd r0 11 M fun a8 =>
        clI (ex 120 3 [pR (some a8), pI (gI M 322 a4), pI (nI (ln M a6))] M) fun r9 M7 =>
        rd p0 5 M7 fun a10 =>
        bd (sI M7 325 a10 r9) fun M11 =>
        rd p0 5 M11 fun a12 =>
        rd r0 11 M11 fun a13 =>
        rd p0 5 M11 fun a14 =>
        rd (gR M11 707 a13) 0 M11 fun a16 =>
        clR (ex 16 2 [pR (some a16), pI (gI M11 325 a14)] M11) fun r17 M15 =>
        ck r17 10 M15
        (rd r17 10 M15 fun a18 =>
        rd p0 5 M15 fun a19 =>
        al (gR M15 324 a19) M15 fun a20 =>
        cpJ (gR M11 324 a12) 0 (gR M15 642 a18) 0 (nI (ln M15 a20)) M15 fun M21 =>
        rd p0 5 M21 fun a22 =>
        some (some (pJ ((gI M21 325 a22).toInt64)), M21))
    else
      some (some (pJ (-1 : Int64)), M) := (rn_un PP [] 153 38 0 _ [] M).trans rfl
set_option maxRecDepth 100000 in
set_option maxHeartbeats 4000000 in
theorem tX11_objectNow (r0 : Option Nat) (p0 : Option Nat) (M : Mem) : ex 154 3 [pR r0, pR p0] M =
    rd p0 5 M fun a1 =>
    rd r0 11 M fun a3 =>
    clR (ex 112 3 [pR (some a3), pJ (gJ M 323 a1)] M) fun r4 M2 =>
    if r4 = none then
      some (some (pJ (-1 : Int64)), M2)
    else
      rd r4 6 M2 fun a5 =>
      some (some (pJ ((gI M2 389 a5).toInt64)), M2) := (rn_un PP [] 154 12 0 _ [] M).trans rfl
set_option maxRecDepth 100000 in
set_option maxHeartbeats 4000000 in
theorem tX11_foundLine (r0 : Option Nat) (p0 : Int32) (M : Mem) : ex 155 4 [pR r0, pI p0] M =
    rn PP 155 4 [some (pR r0), some (pI p0), some (pI 0), some (pI 0)] [] M := (rn_un PP [4] 155 6 0 _ [] M).trans rfl
set_option maxRecDepth 100000 in
set_option maxHeartbeats 4000000 in
theorem tX11_foundLine_4 (l0 : Option Nat) (l1 : Int32) (l2 : Int32) (l3 : Int32) (M : Mem) : rn PP 155 4 [some (pR l0), some (pI l1), some (pI l2), some (pI l3)] [] M =
    rd l0 11 M fun a1 =>
    rd (gR M 719 a1) 0 M fun a3 =>
    clI (ex 14 1 [pR (some a3)] M) fun r4 M2 =>
    if r4 ≤ l3 then
      if ¬ l1 = (-1) then
        some (some (pI (-1)), M2)
      else
        some (some (pI l2), M2)
    else
      rd l0 11 M2 fun a5 =>
      rd (gR M2 719 a5) 0 M2 fun a7 =>
      clR (ex 16 2 [pR (some a7), pI l3] M2) fun r8 M6 =>
      ck r8 6 M6
      (rd r8 6 M6 fun a9 =>
      if ¬ gI M6 390 a9 = 0 then
        if ¬ l2 = l1 then
          rn PP 155 4 [some (pR l0), some (pI l1), some (pI (l2 + 1)), some (pI (l3 + 1))] [] M6
        else
          some (some (pI l3), M6)
      else
        rn PP 155 4 [some (pR l0), some (pI l1), some (pI l2), some (pI (l3 + 1))] [] M6) := (rn_un PP [4] 155 20 4 _ _ M).trans rfl
