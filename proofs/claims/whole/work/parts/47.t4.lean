/-! the methods as pure terms: printed by wip/whole/gen/gen_t.py -/
set_option maxRecDepth 100000 in
set_option maxHeartbeats 4000000 in
theorem tL_law (p0 : Option Nat) (M : Mem) : ex 231 4 [pR p0] M =
    bd (nO M 11 19) fun M1 =>
    rd (some (mT M)) 11 M1 fun a3 =>
    clV (ex 72 1 [pR (some a3)] M1) fun M2 =>
    bd (nO M2 12 63) fun M4 =>
    rd (some (mT M2)) 12 M4 fun a6 =>
    clV (ex 156 1 [pR (some a6)] M4) fun M5 =>
    rn PP 231 18 [some (pR p0), some (pR (some (mT M))), some (pR (some (mT M2))), some (pI 0)] [] M5 := (rn_un PP [18] 231 12 0 _ [] M).trans rfl
set_option maxRecDepth 100000 in
set_option maxHeartbeats 4000000 in
theorem tL_law_18 (l0 : Option Nat) (l1 : Option Nat) (l2 : Option Nat) (l3 : Int32) (M : Mem) : rn PP 231 18 [some (pR l0), some (pR l1), some (pR l2), some (pI l3)] [] M =
    al l0 M fun a1 =>
    if (nI (ln M a1) - 8) < l3 then
      zo 1 (some (some (pI 1), M))
    else
      ix 20 30 l0 l3 M fun a2 j3 =>
      if (aI M a2 j3 &&& 63) = Int32.ofInt (0) then
        rd l1 11 M fun a5 =>
        clI (ex 73 1 [pR (some a5)] M) fun r6 M4 =>
        rd l2 12 M4 fun a8 =>
        clI (ex 164 1 [pR (some a8)] M4) fun r9 M7 =>
        if r6 = r9 then
          rn PP 231 18 [some (pR l0), some (pR l1), some (pR l2), some (pI (l3 + 8))] [] M7
        else
          zo 0 (some (some (pI 0), M7))
      else if (aI M a2 j3 &&& 63) = Int32.ofInt (1) then
        ix 20 30 l0 (l3 + 1) M fun a10 j11 =>
        ix 20 30 l0 (l3 + 2) M fun a12 j13 =>
        ix 20 30 l0 (l3 + 3) M fun a14 j15 =>
        ix 20 30 l0 (l3 + 4) M fun a16 j17 =>
        if aI M a16 j17 = 0 then
          rd l1 11 M fun a19 =>
          clI (ex 74 6 [pR (some a19), pI (aI M a10 j11), pJ ((((aI M a12 j13).toInt64) <<< ((32 : Int32).toInt64 &&& 63)) ||| ((aI M a14 j15).toInt64 &&& (4294967295 : Int64))), pI 0] M) fun r20 M18 =>
          ix 20 30 l0 (l3 + 1) M18 fun a21 j22 =>
          ix 20 30 l0 (l3 + 2) M18 fun a23 j24 =>
          ix 20 30 l0 (l3 + 3) M18 fun a25 j26 =>
          ix 20 30 l0 (l3 + 4) M18 fun a27 j28 =>
          if aI M18 a27 j28 = 0 then
            rd l2 12 M18 fun a30 =>
            clI (ex 166 5 [pR (some a30), pI (aI M18 a21 j22), pJ ((((aI M18 a23 j24).toInt64) <<< ((32 : Int32).toInt64 &&& 63)) ||| ((aI M18 a25 j26).toInt64 &&& (4294967295 : Int64))), pI 0] M18) fun r31 M29 =>
            if r20 = r31 then
              rn PP 231 18 [some (pR l0), some (pR l1), some (pR l2), some (pI (l3 + 8))] [] M29
            else
              zo 0 (some (some (pI 0), M29))
          else
            rd l2 12 M18 fun a33 =>
            clI (ex 166 5 [pR (some a33), pI (aI M18 a21 j22), pJ ((((aI M18 a23 j24).toInt64) <<< ((32 : Int32).toInt64 &&& 63)) ||| ((aI M18 a25 j26).toInt64 &&& (4294967295 : Int64))), pI 1] M18) fun r34 M32 =>
            if r20 = r34 then
              rn PP 231 18 [some (pR l0), some (pR l1), some (pR l2), some (pI (l3 + 8))] [] M32
            else
              zo 0 (some (some (pI 0), M32))
        else
          rd l1 11 M fun a36 =>
          clI (ex 74 6 [pR (some a36), pI (aI M a10 j11), pJ ((((aI M a12 j13).toInt64) <<< ((32 : Int32).toInt64 &&& 63)) ||| ((aI M a14 j15).toInt64 &&& (4294967295 : Int64))), pI 1] M) fun r37 M35 =>
          ix 20 30 l0 (l3 + 1) M35 fun a38 j39 =>
          ix 20 30 l0 (l3 + 2) M35 fun a40 j41 =>
          ix 20 30 l0 (l3 + 3) M35 fun a42 j43 =>
          ix 20 30 l0 (l3 + 4) M35 fun a44 j45 =>
          if aI M35 a44 j45 = 0 then
            rd l2 12 M35 fun a47 =>
            clI (ex 166 5 [pR (some a47), pI (aI M35 a38 j39), pJ ((((aI M35 a40 j41).toInt64) <<< ((32 : Int32).toInt64 &&& 63)) ||| ((aI M35 a42 j43).toInt64 &&& (4294967295 : Int64))), pI 0] M35) fun r48 M46 =>
            if r37 = r48 then
              rn PP 231 18 [some (pR l0), some (pR l1), some (pR l2), some (pI (l3 + 8))] [] M46
            else
              zo 0 (some (some (pI 0), M46))
          else
            rd l2 12 M35 fun a50 =>
            clI (ex 166 5 [pR (some a50), pI (aI M35 a38 j39), pJ ((((aI M35 a40 j41).toInt64) <<< ((32 : Int32).toInt64 &&& 63)) ||| ((aI M35 a42 j43).toInt64 &&& (4294967295 : Int64))), pI 1] M35) fun r51 M49 =>
            if r37 = r51 then
              rn PP 231 18 [some (pR l0), some (pR l1), some (pR l2), some (pI (l3 + 8))] [] M49
            else
              zo 0 (some (some (pI 0), M49))
      else if (aI M a2 j3 &&& 63) = Int32.ofInt (2) then
        ix 20 30 l0 (l3 + 1) M fun a52 j53 =>
        ix 20 30 l0 (l3 + 2) M fun a54 j55 =>
        ix 20 30 l0 (l3 + 3) M fun a56 j57 =>
        rd l1 11 M fun a59 =>
        clI (ex 75 7 [pR (some a59), pI (aI M a52 j53), pI (aI M a54 j55), pI (aI M a56 j57)] M) fun r60 M58 =>
        ix 20 30 l0 (l3 + 1) M58 fun a61 j62 =>
        ix 20 30 l0 (l3 + 2) M58 fun a63 j64 =>
        ix 20 30 l0 (l3 + 3) M58 fun a65 j66 =>
        rd l2 12 M58 fun a68 =>
        clI (ex 167 7 [pR (some a68), pI (aI M58 a61 j62), pI (aI M58 a63 j64), pI (aI M58 a65 j66)] M58) fun r69 M67 =>
        if r60 = r69 then
          rn PP 231 18 [some (pR l0), some (pR l1), some (pR l2), some (pI (l3 + 8))] [] M67
        else
          zo 0 (some (some (pI 0), M67))
      else if (aI M a2 j3 &&& 63) = Int32.ofInt (3) then
        ix 20 30 l0 (l3 + 1) M fun a70 j71 =>
        ix 20 30 l0 (l3 + 2) M fun a72 j73 =>
        rd l1 11 M fun a75 =>
        clI (ex 76 4 [pR (some a75), pI (aI M a70 j71), pI (aI M a72 j73)] M) fun r76 M74 =>
        ix 20 30 l0 (l3 + 1) M74 fun a77 j78 =>
        ix 20 30 l0 (l3 + 2) M74 fun a79 j80 =>
        rd l2 12 M74 fun a82 =>
        clI (ex 168 4 [pR (some a82), pI (aI M74 a77 j78), pI (aI M74 a79 j80)] M74) fun r83 M81 =>
        if r76 = r83 then
          rn PP 231 18 [some (pR l0), some (pR l1), some (pR l2), some (pI (l3 + 8))] [] M81
        else
          zo 0 (some (some (pI 0), M81))
      else if (aI M a2 j3 &&& 63) = Int32.ofInt (4) then
        ix 20 30 l0 (l3 + 1) M fun a84 j85 =>
        ix 20 30 l0 (l3 + 2) M fun a86 j87 =>
        if aI M a86 j87 = 0 then
          rd l1 11 M fun a89 =>
          clI (ex 77 5 [pR (some a89), pI (aI M a84 j85), pI 0] M) fun r90 M88 =>
          ix 20 30 l0 (l3 + 1) M88 fun a91 j92 =>
          ix 20 30 l0 (l3 + 2) M88 fun a93 j94 =>
          if aI M88 a93 j94 = 0 then
            rd l2 12 M88 fun a96 =>
            clI (ex 169 4 [pR (some a96), pI (aI M88 a91 j92), pI 0] M88) fun r97 M95 =>
            if r90 = r97 then
              rn PP 231 18 [some (pR l0), some (pR l1), some (pR l2), some (pI (l3 + 8))] [] M95
            else
              zo 0 (some (some (pI 0), M95))
          else
            rd l2 12 M88 fun a99 =>
            clI (ex 169 4 [pR (some a99), pI (aI M88 a91 j92), pI 1] M88) fun r100 M98 =>
            if r90 = r100 then
              rn PP 231 18 [some (pR l0), some (pR l1), some (pR l2), some (pI (l3 + 8))] [] M98
            else
              zo 0 (some (some (pI 0), M98))
        else
          rd l1 11 M fun a102 =>
          clI (ex 77 5 [pR (some a102), pI (aI M a84 j85), pI 1] M) fun r103 M101 =>
          ix 20 30 l0 (l3 + 1) M101 fun a104 j105 =>
          ix 20 30 l0 (l3 + 2) M101 fun a106 j107 =>
          if aI M101 a106 j107 = 0 then
            rd l2 12 M101 fun a109 =>
            clI (ex 169 4 [pR (some a109), pI (aI M101 a104 j105), pI 0] M101) fun r110 M108 =>
            if r103 = r110 then
              rn PP 231 18 [some (pR l0), some (pR l1), some (pR l2), some (pI (l3 + 8))] [] M108
            else
              zo 0 (some (some (pI 0), M108))
          else
            rd l2 12 M101 fun a112 =>
            clI (ex 169 4 [pR (some a112), pI (aI M101 a104 j105), pI 1] M101) fun r113 M111 =>
            if r103 = r113 then
              rn PP 231 18 [some (pR l0), some (pR l1), some (pR l2), some (pI (l3 + 8))] [] M111
            else
              zo 0 (some (some (pI 0), M111))
      else if (aI M a2 j3 &&& 63) = Int32.ofInt (5) then
        rd l1 11 M fun a115 =>
        clI (ex 78 1 [pR (some a115)] M) fun r116 M114 =>
        rd l2 12 M114 fun a118 =>
        clI (ex 170 1 [pR (some a118)] M114) fun r119 M117 =>
        if r116 = r119 then
          rn PP 231 18 [some (pR l0), some (pR l1), some (pR l2), some (pI (l3 + 8))] [] M117
        else
          zo 0 (some (some (pI 0), M117))
      else if (aI M a2 j3 &&& 63) = Int32.ofInt (6) then
        ix 20 30 l0 (l3 + 1) M fun a120 j121 =>
        ix 20 30 l0 (l3 + 2) M fun a122 j123 =>
        if aI M a122 j123 = 0 then
          ix 20 30 l0 (l3 + 3) M fun a124 j125 =>
          rd l1 11 M fun a127 =>
          clI (ex 79 6 [pR (some a127), pI (aI M a120 j121), pI 0, pI (aI M a124 j125)] M) fun r128 M126 =>
          ix 20 30 l0 (l3 + 1) M126 fun a129 j130 =>
          ix 20 30 l0 (l3 + 2) M126 fun a131 j132 =>
          if aI M126 a131 j132 = 0 then
            ix 20 30 l0 (l3 + 3) M126 fun a133 j134 =>
            rd l2 12 M126 fun a136 =>
            clI (ex 171 6 [pR (some a136), pI (aI M126 a129 j130), pI 0, pI (aI M126 a133 j134)] M126) fun r137 M135 =>
            if r128 = r137 then
              rn PP 231 18 [some (pR l0), some (pR l1), some (pR l2), some (pI (l3 + 8))] [] M135
            else
              zo 0 (some (some (pI 0), M135))
          else
            ix 20 30 l0 (l3 + 3) M126 fun a138 j139 =>
            rd l2 12 M126 fun a141 =>
            clI (ex 171 6 [pR (some a141), pI (aI M126 a129 j130), pI 1, pI (aI M126 a138 j139)] M126) fun r142 M140 =>
            if r128 = r142 then
              rn PP 231 18 [some (pR l0), some (pR l1), some (pR l2), some (pI (l3 + 8))] [] M140
            else
              zo 0 (some (some (pI 0), M140))
        else
          ix 20 30 l0 (l3 + 3) M fun a143 j144 =>
          rd l1 11 M fun a146 =>
          clI (ex 79 6 [pR (some a146), pI (aI M a120 j121), pI 1, pI (aI M a143 j144)] M) fun r147 M145 =>
          ix 20 30 l0 (l3 + 1) M145 fun a148 j149 =>
          ix 20 30 l0 (l3 + 2) M145 fun a150 j151 =>
          if aI M145 a150 j151 = 0 then
            ix 20 30 l0 (l3 + 3) M145 fun a152 j153 =>
            rd l2 12 M145 fun a155 =>
            clI (ex 171 6 [pR (some a155), pI (aI M145 a148 j149), pI 0, pI (aI M145 a152 j153)] M145) fun r156 M154 =>
            if r147 = r156 then
              rn PP 231 18 [some (pR l0), some (pR l1), some (pR l2), some (pI (l3 + 8))] [] M154
            else
              zo 0 (some (some (pI 0), M154))
          else
            ix 20 30 l0 (l3 + 3) M145 fun a157 j158 =>
            rd l2 12 M145 fun a160 =>
            clI (ex 171 6 [pR (some a160), pI (aI M145 a148 j149), pI 1, pI (aI M145 a157 j158)] M145) fun r161 M159 =>
            if r147 = r161 then
              rn PP 231 18 [some (pR l0), some (pR l1), some (pR l2), some (pI (l3 + 8))] [] M159
            else
              zo 0 (some (some (pI 0), M159))
      else if (aI M a2 j3 &&& 63) = Int32.ofInt (7) then
        rd l1 11 M fun a163 =>
        clI (ex 80 1 [pR (some a163)] M) fun r164 M162 =>
        rd l2 12 M162 fun a166 =>
        clI (ex 175 1 [pR (some a166)] M162) fun r167 M165 =>
        if r164 = r167 then
          rn PP 231 18 [some (pR l0), some (pR l1), some (pR l2), some (pI (l3 + 8))] [] M165
        else
          zo 0 (some (some (pI 0), M165))
      else if (aI M a2 j3 &&& 63) = Int32.ofInt (8) then
        ix 20 30 l0 (l3 + 1) M fun a168 j169 =>
        ix 20 30 l0 (l3 + 2) M fun a170 j171 =>
        ix 20 30 l0 (l3 + 3) M fun a172 j173 =>
        ix 20 30 l0 (l3 + 4) M fun a174 j175 =>
        ix 20 30 l0 (l3 + 5) M fun a176 j177 =>
        ix 20 30 l0 (l3 + 6) M fun a178 j179 =>
        ix 20 30 l0 (l3 + 7) M fun a180 j181 =>
        rd l1 11 M fun a183 =>
        clI (ex 81 9 [pR (some a183), pI (aI M a168 j169), pJ ((((aI M a170 j171).toInt64) <<< ((32 : Int32).toInt64 &&& 63)) ||| ((aI M a172 j173).toInt64 &&& (4294967295 : Int64))), pI (aI M a174 j175), pI (aI M a176 j177), pJ ((((aI M a178 j179).toInt64) <<< ((32 : Int32).toInt64 &&& 63)) ||| ((aI M a180 j181).toInt64 &&& (4294967295 : Int64)))] M) fun r184 M182 =>
        ix 20 30 l0 (l3 + 1) M182 fun a185 j186 =>
        ix 20 30 l0 (l3 + 2) M182 fun a187 j188 =>
        ix 20 30 l0 (l3 + 3) M182 fun a189 j190 =>
        ix 20 30 l0 (l3 + 4) M182 fun a191 j192 =>
        ix 20 30 l0 (l3 + 5) M182 fun a193 j194 =>
        ix 20 30 l0 (l3 + 6) M182 fun a195 j196 =>
        ix 20 30 l0 (l3 + 7) M182 fun a197 j198 =>
        rd l2 12 M182 fun a200 =>
        clI (ex 179 9 [pR (some a200), pI (aI M182 a185 j186), pJ ((((aI M182 a187 j188).toInt64) <<< ((32 : Int32).toInt64 &&& 63)) ||| ((aI M182 a189 j190).toInt64 &&& (4294967295 : Int64))), pI (aI M182 a191 j192), pI (aI M182 a193 j194), pJ ((((aI M182 a195 j196).toInt64) <<< ((32 : Int32).toInt64 &&& 63)) ||| ((aI M182 a197 j198).toInt64 &&& (4294967295 : Int64)))] M182) fun r201 M199 =>
        if r184 = r201 then
          rn PP 231 18 [some (pR l0), some (pR l1), some (pR l2), some (pI (l3 + 8))] [] M199
        else
          zo 0 (some (some (pI 0), M199))
      else if (aI M a2 j3 &&& 63) = Int32.ofInt (9) then
        ix 20 30 l0 (l3 + 1) M fun a202 j203 =>
        ix 20 30 l0 (l3 + 2) M fun a204 j205 =>
        rd l1 11 M fun a207 =>
        clI (ex 82 4 [pR (some a207), pI (aI M a202 j203), pI (aI M a204 j205)] M) fun r208 M206 =>
        ix 20 30 l0 (l3 + 1) M206 fun a209 j210 =>
        ix 20 30 l0 (l3 + 2) M206 fun a211 j212 =>
        rd l2 12 M206 fun a214 =>
        clI (ex 182 5 [pR (some a214), pI (aI M206 a209 j210), pI (aI M206 a211 j212)] M206) fun r215 M213 =>
        if r208 = r215 then
          rn PP 231 18 [some (pR l0), some (pR l1), some (pR l2), some (pI (l3 + 8))] [] M213
        else
          zo 0 (some (some (pI 0), M213))
      else if (aI M a2 j3 &&& 63) = Int32.ofInt (10) then
        ix 20 30 l0 (l3 + 1) M fun a216 j217 =>
        ix 20 30 l0 (l3 + 2) M fun a218 j219 =>
        ix 20 30 l0 (l3 + 3) M fun a220 j221 =>
        ix 20 30 l0 (l3 + 4) M fun a222 j223 =>
        rd l1 11 M fun a225 =>
        clI (ex 83 7 [pR (some a225), pI (aI M a216 j217), pI (aI M a218 j219), pI (aI M a220 j221), pI (aI M a222 j223)] M) fun r226 M224 =>
        ix 20 30 l0 (l3 + 1) M224 fun a227 j228 =>
        ix 20 30 l0 (l3 + 2) M224 fun a229 j230 =>
        ix 20 30 l0 (l3 + 3) M224 fun a231 j232 =>
        ix 20 30 l0 (l3 + 4) M224 fun a233 j234 =>
        rd l2 12 M224 fun a236 =>
        clI (ex 183 6 [pR (some a236), pI (aI M224 a227 j228), pI (aI M224 a229 j230), pI (aI M224 a231 j232), pI (aI M224 a233 j234)] M224) fun r237 M235 =>
        if r226 = r237 then
          rn PP 231 18 [some (pR l0), some (pR l1), some (pR l2), some (pI (l3 + 8))] [] M235
        else
          zo 0 (some (some (pI 0), M235))
      else if (aI M a2 j3 &&& 63) = Int32.ofInt (11) then
        ix 20 30 l0 (l3 + 1) M fun a238 j239 =>
        ix 20 30 l0 (l3 + 2) M fun a240 j241 =>
        ix 20 30 l0 (l3 + 3) M fun a242 j243 =>
        ix 20 30 l0 (l3 + 4) M fun a244 j245 =>
        ix 20 30 l0 (l3 + 5) M fun a246 j247 =>
        ix 20 30 l0 (l3 + 6) M fun a248 j249 =>
        ix 20 30 l0 (l3 + 7) M fun a250 j251 =>
        rd l1 11 M fun a253 =>
        clI (ex 84 10 [pR (some a253), pI (aI M a238 j239), pI (aI M a240 j241), pI (aI M a242 j243), pJ ((((aI M a244 j245).toInt64) <<< ((32 : Int32).toInt64 &&& 63)) ||| ((aI M a246 j247).toInt64 &&& (4294967295 : Int64))), pJ ((((aI M a248 j249).toInt64) <<< ((32 : Int32).toInt64 &&& 63)) ||| ((aI M a250 j251).toInt64 &&& (4294967295 : Int64)))] M) fun r254 M252 =>
        ix 20 30 l0 (l3 + 1) M252 fun a255 j256 =>
        ix 20 30 l0 (l3 + 2) M252 fun a257 j258 =>
        ix 20 30 l0 (l3 + 3) M252 fun a259 j260 =>
        ix 20 30 l0 (l3 + 4) M252 fun a261 j262 =>
        ix 20 30 l0 (l3 + 5) M252 fun a263 j264 =>
        ix 20 30 l0 (l3 + 6) M252 fun a265 j266 =>
        ix 20 30 l0 (l3 + 7) M252 fun a267 j268 =>
        rd l2 12 M252 fun a270 =>
        clI (ex 185 9 [pR (some a270), pI (aI M252 a255 j256), pI (aI M252 a257 j258), pI (aI M252 a259 j260), pJ ((((aI M252 a261 j262).toInt64) <<< ((32 : Int32).toInt64 &&& 63)) ||| ((aI M252 a263 j264).toInt64 &&& (4294967295 : Int64))), pJ ((((aI M252 a265 j266).toInt64) <<< ((32 : Int32).toInt64 &&& 63)) ||| ((aI M252 a267 j268).toInt64 &&& (4294967295 : Int64)))] M252) fun r271 M269 =>
        if r254 = r271 then
          rn PP 231 18 [some (pR l0), some (pR l1), some (pR l2), some (pI (l3 + 8))] [] M269
        else
          zo 0 (some (some (pI 0), M269))
      else if (aI M a2 j3 &&& 63) = Int32.ofInt (12) then
        rd l1 11 M fun a273 =>
        clI (ex 85 3 [pR (some a273)] M) fun r274 M272 =>
        rd l2 12 M272 fun a276 =>
        clI (ex 186 3 [pR (some a276)] M272) fun r277 M275 =>
        if r274 = r277 then
          rn PP 231 18 [some (pR l0), some (pR l1), some (pR l2), some (pI (l3 + 8))] [] M275
        else
          zo 0 (some (some (pI 0), M275))
      else if (aI M a2 j3 &&& 63) = Int32.ofInt (13) then
        ix 20 30 l0 (l3 + 1) M fun a278 j279 =>
        ix 20 30 l0 (l3 + 2) M fun a280 j281 =>
        rd l1 11 M fun a283 =>
        clI (ex 86 3 [pR (some a283), pI (aI M a278 j279), pI (aI M a280 j281)] M) fun r284 M282 =>
        ix 20 30 l0 (l3 + 1) M282 fun a285 j286 =>
        ix 20 30 l0 (l3 + 2) M282 fun a287 j288 =>
        rd l2 12 M282 fun a290 =>
        clI (ex 190 3 [pR (some a290), pI (aI M282 a285 j286), pI (aI M282 a287 j288)] M282) fun r291 M289 =>
        if r284 = r291 then
          rn PP 231 18 [some (pR l0), some (pR l1), some (pR l2), some (pI (l3 + 8))] [] M289
        else
          zo 0 (some (some (pI 0), M289))
      else if (aI M a2 j3 &&& 63) = Int32.ofInt (14) then
        ix 20 30 l0 (l3 + 1) M fun a292 j293 =>
        ix 20 30 l0 (l3 + 2) M fun a294 j295 =>
        ix 20 30 l0 (l3 + 3) M fun a296 j297 =>
        ix 20 30 l0 (l3 + 4) M fun a298 j299 =>
        rd l1 11 M fun a301 =>
        clI (ex 87 6 [pR (some a301), pI (aI M a292 j293), pI (aI M a294 j295), pJ ((((aI M a296 j297).toInt64) <<< ((32 : Int32).toInt64 &&& 63)) ||| ((aI M a298 j299).toInt64 &&& (4294967295 : Int64)))] M) fun r302 M300 =>
        ix 20 30 l0 (l3 + 1) M300 fun a303 j304 =>
        ix 20 30 l0 (l3 + 2) M300 fun a305 j306 =>
        ix 20 30 l0 (l3 + 3) M300 fun a307 j308 =>
        ix 20 30 l0 (l3 + 4) M300 fun a309 j310 =>
        rd l2 12 M300 fun a312 =>
        clI (ex 192 5 [pR (some a312), pI (aI M300 a303 j304), pI (aI M300 a305 j306), pJ ((((aI M300 a307 j308).toInt64) <<< ((32 : Int32).toInt64 &&& 63)) ||| ((aI M300 a309 j310).toInt64 &&& (4294967295 : Int64)))] M300) fun r313 M311 =>
        if r302 = r313 then
          rn PP 231 18 [some (pR l0), some (pR l1), some (pR l2), some (pI (l3 + 8))] [] M311
        else
          zo 0 (some (some (pI 0), M311))
      else if (aI M a2 j3 &&& 63) = Int32.ofInt (15) then
        ix 20 30 l0 (l3 + 1) M fun a314 j315 =>
        ix 20 30 l0 (l3 + 2) M fun a316 j317 =>
        rd l1 11 M fun a319 =>
        clJ (ex 88 4 [pR (some a319), pI (aI M a314 j315), pI (aI M a316 j317)] M) fun r320 M318 =>
        ix 20 30 l0 (l3 + 1) M318 fun a321 j322 =>
        ix 20 30 l0 (l3 + 2) M318 fun a323 j324 =>
        rd l2 12 M318 fun a326 =>
        clJ (ex 193 3 [pR (some a326), pI (aI M318 a321 j322), pI (aI M318 a323 j324)] M318) fun r327 M325 =>
        if lg_cmp r320 r327 = 0 then
          rn PP 231 18 [some (pR l0), some (pR l1), some (pR l2), some (pI (l3 + 8))] [] M325
        else
          zo 0 (some (some (pI 0), M325))
      else if (aI M a2 j3 &&& 63) = Int32.ofInt (16) then
        ix 20 30 l0 (l3 + 1) M fun a328 j329 =>
        rd l1 11 M fun a331 =>
        clI (ex 89 3 [pR (some a331), pI (aI M a328 j329)] M) fun r332 M330 =>
        ix 20 30 l0 (l3 + 1) M330 fun a333 j334 =>
        rd l2 12 M330 fun a336 =>
        clI (ex 194 2 [pR (some a336), pI (aI M330 a333 j334)] M330) fun r337 M335 =>
        if r332 = r337 then
          rn PP 231 18 [some (pR l0), some (pR l1), some (pR l2), some (pI (l3 + 8))] [] M335
        else
          zo 0 (some (some (pI 0), M335))
      else if (aI M a2 j3 &&& 63) = Int32.ofInt (17) then
        ix 20 30 l0 (l3 + 1) M fun a338 j339 =>
        ix 20 30 l0 (l3 + 2) M fun a340 j341 =>
        ix 20 30 l0 (l3 + 3) M fun a342 j343 =>
        rd l1 11 M fun a345 =>
        clI (ex 90 4 [pR (some a345), pI (aI M a338 j339), pJ ((((aI M a340 j341).toInt64) <<< ((32 : Int32).toInt64 &&& 63)) ||| ((aI M a342 j343).toInt64 &&& (4294967295 : Int64)))] M) fun r346 M344 =>
        ix 20 30 l0 (l3 + 1) M344 fun a347 j348 =>
        ix 20 30 l0 (l3 + 2) M344 fun a349 j350 =>
        ix 20 30 l0 (l3 + 3) M344 fun a351 j352 =>
        rd l2 12 M344 fun a354 =>
        clI (ex 195 4 [pR (some a354), pI (aI M344 a347 j348), pJ ((((aI M344 a349 j350).toInt64) <<< ((32 : Int32).toInt64 &&& 63)) ||| ((aI M344 a351 j352).toInt64 &&& (4294967295 : Int64)))] M344) fun r355 M353 =>
        if r346 = r355 then
          rn PP 231 18 [some (pR l0), some (pR l1), some (pR l2), some (pI (l3 + 8))] [] M353
        else
          zo 0 (some (some (pI 0), M353))
      else if (aI M a2 j3 &&& 63) = Int32.ofInt (18) then
        ix 20 30 l0 (l3 + 1) M fun a356 j357 =>
        rd l1 11 M fun a359 =>
        clI (ex 91 4 [pR (some a359), pI (aI M a356 j357)] M) fun r360 M358 =>
        ix 20 30 l0 (l3 + 1) M358 fun a361 j362 =>
        rd l2 12 M358 fun a364 =>
        clI (ex 202 4 [pR (some a364), pI (aI M358 a361 j362)] M358) fun r365 M363 =>
        if r360 = r365 then
          rn PP 231 18 [some (pR l0), some (pR l1), some (pR l2), some (pI (l3 + 8))] [] M363
        else
          zo 0 (some (some (pI 0), M363))
      else if (aI M a2 j3 &&& 63) = Int32.ofInt (19) then
        ix 20 30 l0 (l3 + 1) M fun a366 j367 =>
        rd l1 11 M fun a369 =>
        clI (ex 92 2 [pR (some a369), pI (aI M a366 j367)] M) fun r370 M368 =>
        ix 20 30 l0 (l3 + 1) M368 fun a371 j372 =>
        rd l2 12 M368 fun a374 =>
        clI (ex 203 2 [pR (some a374), pI (aI M368 a371 j372)] M368) fun r375 M373 =>
        if r370 = r375 then
          rn PP 231 18 [some (pR l0), some (pR l1), some (pR l2), some (pI (l3 + 8))] [] M373
        else
          zo 0 (some (some (pI 0), M373))
      else if (aI M a2 j3 &&& 63) = Int32.ofInt (20) then
        ix 20 30 l0 (l3 + 1) M fun a376 j377 =>
        ix 20 30 l0 (l3 + 2) M fun a378 j379 =>
        rd l1 11 M fun a381 =>
        clJ (ex 93 5 [pR (some a381), pI (aI M a376 j377), pI (aI M a378 j379)] M) fun r382 M380 =>
        ix 20 30 l0 (l3 + 1) M380 fun a383 j384 =>
        ix 20 30 l0 (l3 + 2) M380 fun a385 j386 =>
        rd l2 12 M380 fun a388 =>
        clJ (ex 204 3 [pR (some a388), pI (aI M380 a383 j384), pI (aI M380 a385 j386)] M380) fun r389 M387 =>
        if lg_cmp r382 r389 = 0 then
          rn PP 231 18 [some (pR l0), some (pR l1), some (pR l2), some (pI (l3 + 8))] [] M387
        else
          zo 0 (some (some (pI 0), M387))
      else if (aI M a2 j3 &&& 63) = Int32.ofInt (21) then
        ix 20 30 l0 (l3 + 1) M fun a390 j391 =>
        rd l1 11 M fun a393 =>
        clI (ex 94 3 [pR (some a393), pI (aI M a390 j391)] M) fun r394 M392 =>
        ix 20 30 l0 (l3 + 1) M392 fun a395 j396 =>
        rd l2 12 M392 fun a398 =>
        clI (ex 205 2 [pR (some a398), pI (aI M392 a395 j396)] M392) fun r399 M397 =>
        if r394 = r399 then
          rn PP 231 18 [some (pR l0), some (pR l1), some (pR l2), some (pI (l3 + 8))] [] M397
        else
          zo 0 (some (some (pI 0), M397))
      else if (aI M a2 j3 &&& 63) = Int32.ofInt (22) then
        ix 20 30 l0 (l3 + 1) M fun a400 j401 =>
        ix 20 30 l0 (l3 + 2) M fun a402 j403 =>
        rd l1 11 M fun a405 =>
        clI (ex 95 5 [pR (some a405), pI (aI M a400 j401), pI (aI M a402 j403)] M) fun r406 M404 =>
        ix 20 30 l0 (l3 + 1) M404 fun a407 j408 =>
        ix 20 30 l0 (l3 + 2) M404 fun a409 j410 =>
        rd l2 12 M404 fun a412 =>
        clI (ex 206 3 [pR (some a412), pI (aI M404 a407 j408), pI (aI M404 a409 j410)] M404) fun r413 M411 =>
        if r406 = r413 then
          rn PP 231 18 [some (pR l0), some (pR l1), some (pR l2), some (pI (l3 + 8))] [] M411
        else
          zo 0 (some (some (pI 0), M411))
      else if (aI M a2 j3 &&& 63) = Int32.ofInt (23) then
        ix 20 30 l0 (l3 + 1) M fun a414 j415 =>
        ix 20 30 l0 (l3 + 2) M fun a416 j417 =>
        rd l1 11 M fun a419 =>
        clI (ex 96 5 [pR (some a419), pI (aI M a414 j415), pI (aI M a416 j417)] M) fun r420 M418 =>
        ix 20 30 l0 (l3 + 1) M418 fun a421 j422 =>
        ix 20 30 l0 (l3 + 2) M418 fun a423 j424 =>
        rd l2 12 M418 fun a426 =>
        clI (ex 208 6 [pR (some a426), pI (aI M418 a421 j422), pI (aI M418 a423 j424)] M418) fun r427 M425 =>
        if r420 = r427 then
          rn PP 231 18 [some (pR l0), some (pR l1), some (pR l2), some (pI (l3 + 8))] [] M425
        else
          zo 0 (some (some (pI 0), M425))
      else if (aI M a2 j3 &&& 63) = Int32.ofInt (24) then
        ix 20 30 l0 (l3 + 1) M fun a428 j429 =>
        ix 20 30 l0 (l3 + 2) M fun a430 j431 =>
        ix 20 30 l0 (l3 + 3) M fun a432 j433 =>
        rd l1 11 M fun a435 =>
        clI (ex 97 7 [pR (some a435), pI (aI M a428 j429), pJ ((((aI M a430 j431).toInt64) <<< ((32 : Int32).toInt64 &&& 63)) ||| ((aI M a432 j433).toInt64 &&& (4294967295 : Int64)))] M) fun r436 M434 =>
        ix 20 30 l0 (l3 + 1) M434 fun a437 j438 =>
        ix 20 30 l0 (l3 + 2) M434 fun a439 j440 =>
        ix 20 30 l0 (l3 + 3) M434 fun a441 j442 =>
        rd l2 12 M434 fun a444 =>
        clI (ex 209 6 [pR (some a444), pI (aI M434 a437 j438), pJ ((((aI M434 a439 j440).toInt64) <<< ((32 : Int32).toInt64 &&& 63)) ||| ((aI M434 a441 j442).toInt64 &&& (4294967295 : Int64)))] M434) fun r445 M443 =>
        if r436 = r445 then
          rn PP 231 18 [some (pR l0), some (pR l1), some (pR l2), some (pI (l3 + 8))] [] M443
        else
          zo 0 (some (some (pI 0), M443))
      else if (aI M a2 j3 &&& 63) = Int32.ofInt (25) then
        ix 20 30 l0 (l3 + 1) M fun a446 j447 =>
        ix 20 30 l0 (l3 + 2) M fun a448 j449 =>
        ix 20 30 l0 (l3 + 3) M fun a450 j451 =>
        ix 20 30 l0 (l3 + 4) M fun a452 j453 =>
        rd l1 11 M fun a455 =>
        clJ (ex 98 8 [pR (some a455), pI (aI M a446 j447), pI (aI M a448 j449), pI (aI M a450 j451), pI (aI M a452 j453)] M) fun r456 M454 =>
        ix 20 30 l0 (l3 + 1) M454 fun a457 j458 =>
        ix 20 30 l0 (l3 + 2) M454 fun a459 j460 =>
        ix 20 30 l0 (l3 + 3) M454 fun a461 j462 =>
        ix 20 30 l0 (l3 + 4) M454 fun a463 j464 =>
        rd l2 12 M454 fun a466 =>
        clJ (ex 211 8 [pR (some a466), pI (aI M454 a457 j458), pI (aI M454 a459 j460), pI (aI M454 a461 j462), pI (aI M454 a463 j464)] M454) fun r467 M465 =>
        if lg_cmp r456 r467 = 0 then
          rn PP 231 18 [some (pR l0), some (pR l1), some (pR l2), some (pI (l3 + 8))] [] M465
        else
          zo 0 (some (some (pI 0), M465))
      else if (aI M a2 j3 &&& 63) = Int32.ofInt (26) then
        ix 20 30 l0 (l3 + 1) M fun a468 j469 =>
        rd l1 11 M fun a471 =>
        clI (ex 99 2 [pR (some a471), pI (aI M a468 j469)] M) fun r472 M470 =>
        ix 20 30 l0 (l3 + 1) M470 fun a473 j474 =>
        rd l2 12 M470 fun a476 =>
        clI (ex 188 2 [pR (some a476), pI (aI M470 a473 j474)] M470) fun r477 M475 =>
        if r472 = r477 then
          rn PP 231 18 [some (pR l0), some (pR l1), some (pR l2), some (pI (l3 + 8))] [] M475
        else
          zo 0 (some (some (pI 0), M475))
      else if (aI M a2 j3 &&& 63) = Int32.ofInt (27) then
        ix 20 30 l0 (l3 + 1) M fun a478 j479 =>
        rd l1 11 M fun a481 =>
        clI (ex 100 3 [pR (some a481), pI (aI M a478 j479)] M) fun r482 M480 =>
        ix 20 30 l0 (l3 + 1) M480 fun a483 j484 =>
        rd l2 12 M480 fun a486 =>
        clI (ex 213 8 [pR (some a486), pI (aI M480 a483 j484)] M480) fun r487 M485 =>
        if r482 = r487 then
          rn PP 231 18 [some (pR l0), some (pR l1), some (pR l2), some (pI (l3 + 8))] [] M485
        else
          zo 0 (some (some (pI 0), M485))
      else if (aI M a2 j3 &&& 63) = Int32.ofInt (28) then
        ix 20 30 l0 (l3 + 1) M fun a488 j489 =>
        rd l1 11 M fun a491 =>
        clI (ex 101 3 [pR (some a491), pI (aI M a488 j489)] M) fun r492 M490 =>
        ix 20 30 l0 (l3 + 1) M490 fun a493 j494 =>
        rd l2 12 M490 fun a496 =>
        clI (ex 222 10 [pR (some a496), pI (aI M490 a493 j494)] M490) fun r497 M495 =>
        if r492 = r497 then
          rn PP 231 18 [some (pR l0), some (pR l1), some (pR l2), some (pI (l3 + 8))] [] M495
        else
          zo 0 (some (some (pI 0), M495))
      else if (aI M a2 j3 &&& 63) = Int32.ofInt (29) then
        ix 20 30 l0 (l3 + 1) M fun a498 j499 =>
        ix 20 30 l0 (l3 + 2) M fun a500 j501 =>
        rd l1 11 M fun a503 =>
        clI (ex 102 4 [pR (some a503), pI (aI M a498 j499), pI (aI M a500 j501)] M) fun r504 M502 =>
        ix 20 30 l0 (l3 + 1) M502 fun a505 j506 =>
        ix 20 30 l0 (l3 + 2) M502 fun a507 j508 =>
        rd l2 12 M502 fun a510 =>
        clI (ex 224 3 [pR (some a510), pI (aI M502 a505 j506), pI (aI M502 a507 j508)] M502) fun r511 M509 =>
        if r504 = r511 then
          rn PP 231 18 [some (pR l0), some (pR l1), some (pR l2), some (pI (l3 + 8))] [] M509
        else
          zo 0 (some (some (pI 0), M509))
      else if (aI M a2 j3 &&& 63) = Int32.ofInt (30) then
        ix 20 30 l0 (l3 + 1) M fun a512 j513 =>
        ix 20 30 l0 (l3 + 2) M fun a514 j515 =>
        ix 20 30 l0 (l3 + 3) M fun a516 j517 =>
        ix 20 30 l0 (l3 + 4) M fun a518 j519 =>
        ix 20 30 l0 (l3 + 5) M fun a520 j521 =>
        rd l1 11 M fun a523 =>
        clI (ex 103 8 [pR (some a523), pJ ((((aI M a512 j513).toInt64) <<< ((32 : Int32).toInt64 &&& 63)) ||| ((aI M a514 j515).toInt64 &&& (4294967295 : Int64))), pJ ((((aI M a516 j517).toInt64) <<< ((32 : Int32).toInt64 &&& 63)) ||| ((aI M a518 j519).toInt64 &&& (4294967295 : Int64))), pI (aI M a520 j521)] M) fun r524 M522 =>
        ix 20 30 l0 (l3 + 1) M522 fun a525 j526 =>
        ix 20 30 l0 (l3 + 2) M522 fun a527 j528 =>
        ix 20 30 l0 (l3 + 3) M522 fun a529 j530 =>
        ix 20 30 l0 (l3 + 4) M522 fun a531 j532 =>
        ix 20 30 l0 (l3 + 5) M522 fun a533 j534 =>
        rd l2 12 M522 fun a536 =>
        clI (ex 227 6 [pR (some a536), pJ ((((aI M522 a525 j526).toInt64) <<< ((32 : Int32).toInt64 &&& 63)) ||| ((aI M522 a527 j528).toInt64 &&& (4294967295 : Int64))), pJ ((((aI M522 a529 j530).toInt64) <<< ((32 : Int32).toInt64 &&& 63)) ||| ((aI M522 a531 j532).toInt64 &&& (4294967295 : Int64))), pI (aI M522 a533 j534)] M522) fun r537 M535 =>
        if r524 = r537 then
          rn PP 231 18 [some (pR l0), some (pR l1), some (pR l2), some (pI (l3 + 8))] [] M535
        else
          zo 0 (some (some (pI 0), M535))
      else if (aI M a2 j3 &&& 63) = Int32.ofInt (31) then
        ix 20 30 l0 (l3 + 1) M fun a538 j539 =>
        ix 20 30 l0 (l3 + 2) M fun a540 j541 =>
        ix 20 30 l0 (l3 + 3) M fun a542 j543 =>
        ix 20 30 l0 (l3 + 4) M fun a544 j545 =>
        ix 20 30 l0 (l3 + 5) M fun a546 j547 =>
        ix 20 30 l0 (l3 + 6) M fun a548 j549 =>
        rd l1 11 M fun a551 =>
        clI (ex 104 10 [pR (some a551), pJ ((((aI M a538 j539).toInt64) <<< ((32 : Int32).toInt64 &&& 63)) ||| ((aI M a540 j541).toInt64 &&& (4294967295 : Int64))), pI (aI M a542 j543), pI (aI M a544 j545), pI (aI M a546 j547), pI (aI M a548 j549)] M) fun r552 M550 =>
        ix 20 30 l0 (l3 + 1) M550 fun a553 j554 =>
        ix 20 30 l0 (l3 + 2) M550 fun a555 j556 =>
        ix 20 30 l0 (l3 + 3) M550 fun a557 j558 =>
        ix 20 30 l0 (l3 + 4) M550 fun a559 j560 =>
        ix 20 30 l0 (l3 + 5) M550 fun a561 j562 =>
        ix 20 30 l0 (l3 + 6) M550 fun a563 j564 =>
        rd l2 12 M550 fun a566 =>
        clI (ex 228 7 [pR (some a566), pJ ((((aI M550 a553 j554).toInt64) <<< ((32 : Int32).toInt64 &&& 63)) ||| ((aI M550 a555 j556).toInt64 &&& (4294967295 : Int64))), pI (aI M550 a557 j558), pI (aI M550 a559 j560), pI (aI M550 a561 j562), pI (aI M550 a563 j564)] M550) fun r567 M565 =>
        if r552 = r567 then
          rn PP 231 18 [some (pR l0), some (pR l1), some (pR l2), some (pI (l3 + 8))] [] M565
        else
          zo 0 (some (some (pI 0), M565))
      else if (aI M a2 j3 &&& 63) = Int32.ofInt (32) then
        ix 20 30 l0 (l3 + 1) M fun a568 j569 =>
        rd l1 11 M fun a571 =>
        clI (ex 105 2 [pR (some a571), pI (aI M a568 j569)] M) fun r572 M570 =>
        ix 20 30 l0 (l3 + 1) M570 fun a573 j574 =>
        rd l2 12 M570 fun a576 =>
        clI (ex 229 2 [pR (some a576), pI (aI M570 a573 j574)] M570) fun r577 M575 =>
        if r572 = r577 then
          rn PP 231 18 [some (pR l0), some (pR l1), some (pR l2), some (pI (l3 + 8))] [] M575
        else
          zo 0 (some (some (pI 0), M575))
      else if (aI M a2 j3 &&& 63) = Int32.ofInt (33) then
        ix 20 30 l0 (l3 + 1) M fun a578 j579 =>
        ix 20 30 l0 (l3 + 2) M fun a580 j581 =>
        rd l1 11 M fun a583 =>
        clI (ex 106 4 [pR (some a583), pI (aI M a578 j579), pI (aI M a580 j581)] M) fun r584 M582 =>
        ix 20 30 l0 (l3 + 1) M582 fun a585 j586 =>
        ix 20 30 l0 (l3 + 2) M582 fun a587 j588 =>
        rd l2 12 M582 fun a590 =>
        clI (ex 230 3 [pR (some a590), pI (aI M582 a585 j586), pI (aI M582 a587 j588)] M582) fun r591 M589 =>
        if r584 = r591 then
          rn PP 231 18 [some (pR l0), some (pR l1), some (pR l2), some (pI (l3 + 8))] [] M589
        else
          zo 0 (some (some (pI 0), M589))
      else 
        rn PP 231 18 [some (pR l0), some (pR l1), some (pR l2), some (pI (l3 + 8))] [] M := (rn_un PP [18] 231 119 18 _ _ M).trans rfl
