/-! the code of the methods: printed by wip/whole/gen/gen_code.py -/
def kJxe99ae_isNaN_b9ae7 (pc : Nat) : Option Ent := bif Nat.ble 12 pc then none else
 bif Nat.ble 6 pc then
  bif Nat.ble 10 pc then
   bif Nat.ble 11 pc then
    bif Nat.beq pc 11 then some (.ireturn, 1, [1], .inl 0, []) else none
   else
    bif Nat.beq pc 10 then some (.iconst 0, 1, [], .inl (0), []) else none
  else
   bif Nat.ble 7 pc then
    bif Nat.beq pc 7 then some (.goto 4, 3, [], .inl 0, []) else none
   else
    bif Nat.beq pc 6 then some (.iconst 1, 1, [], .inl (1), []) else none
 else
  bif Nat.ble 2 pc then
   bif Nat.ble 3 pc then
    bif Nat.beq pc 3 then some (.ifCond .eq 7, 3, [], .inl 0, []) else none
   else
    bif Nat.beq pc 2 then some (.dcmp .l, 1, [], .inl 0, []) else none
  else
   bif Nat.ble 1 pc then
    bif Nat.beq pc 1 then some (.dload_n 0, 1, [], .inl 0, []) else none
   else
    bif Nat.beq pc 0 then some (.dload_n 0, 1, [], .inl 0, []) else none
def kJxe99ae_doubleToLongBits_ccdee (pc : Nat) : Option Ent := bif Nat.ble 16 pc then none else
 bif Nat.ble 8 pc then
  bif Nat.ble 12 pc then
   bif Nat.ble 15 pc then
    bif Nat.beq pc 15 then some (.lreturn, 1, [], .inl 0, []) else none
   else
    bif Nat.beq pc 12 then some (.ldc2_w 137, 3, [], .inr (.inl (9221120237041090560)), []) else none
  else
   bif Nat.ble 11 pc then
    bif Nat.beq pc 11 then some (.lreturn, 1, [], .inl 0, []) else none
   else
    bif Nat.beq pc 8 then some (.invokestatic 134, 3, [9007], .inl 0, []) else none
 else
  bif Nat.ble 4 pc then
   bif Nat.ble 7 pc then
    bif Nat.beq pc 7 then some (.dload_n 0, 1, [], .inl 0, []) else none
   else
    bif Nat.beq pc 4 then some (.ifCond .ne 8, 3, [], .inl 0, []) else none
  else
   bif Nat.ble 1 pc then
    bif Nat.beq pc 1 then some (.invokestatic 122, 3, [0, 1, 1, 2, 100], .inl 0, []) else none
   else
    bif Nat.beq pc 0 then some (.dload_n 0, 1, [], .inl 0, []) else none
def kJxf58ca_isNaN_12338 (pc : Nat) : Option Ent := bif Nat.ble 12 pc then none else
 bif Nat.ble 6 pc then
  bif Nat.ble 10 pc then
   bif Nat.ble 11 pc then
    bif Nat.beq pc 11 then some (.ireturn, 1, [1], .inl 0, []) else none
   else
    bif Nat.beq pc 10 then some (.iconst 0, 1, [], .inl (0), []) else none
  else
   bif Nat.ble 7 pc then
    bif Nat.beq pc 7 then some (.goto 4, 3, [], .inl 0, []) else none
   else
    bif Nat.beq pc 6 then some (.iconst 1, 1, [], .inl (1), []) else none
 else
  bif Nat.ble 2 pc then
   bif Nat.ble 3 pc then
    bif Nat.beq pc 3 then some (.ifCond .eq 7, 3, [], .inl 0, []) else none
   else
    bif Nat.beq pc 2 then some (.fcmp .l, 1, [], .inl 0, []) else none
  else
   bif Nat.ble 1 pc then
    bif Nat.beq pc 1 then some (.fload_n 0, 1, [], .inl 0, []) else none
   else
    bif Nat.beq pc 0 then some (.fload_n 0, 1, [], .inl 0, []) else none
def kJxf58ca_floatToIntBits_5c35a (pc : Nat) : Option Ent := bif Nat.ble 15 pc then none else
 bif Nat.ble 8 pc then
  bif Nat.ble 12 pc then
   bif Nat.ble 14 pc then
    bif Nat.beq pc 14 then some (.ireturn, 1, [], .inl 0, []) else none
   else
    bif Nat.beq pc 12 then some (.ldc 77, 2, [], .inl (2143289344), []) else none
  else
   bif Nat.ble 11 pc then
    bif Nat.beq pc 11 then some (.ireturn, 1, [], .inl 0, []) else none
   else
    bif Nat.beq pc 8 then some (.invokestatic 74, 3, [9008], .inl 0, []) else none
 else
  bif Nat.ble 4 pc then
   bif Nat.ble 7 pc then
    bif Nat.beq pc 7 then some (.fload_n 0, 1, [], .inl 0, []) else none
   else
    bif Nat.beq pc 4 then some (.ifCond .ne 8, 3, [], .inl 0, []) else none
  else
   bif Nat.ble 1 pc then
    bif Nat.beq pc 1 then some (.invokestatic 59, 3, [2, 1, 1, 1, 100], .inl 0, []) else none
   else
    bif Nat.beq pc 0 then some (.fload_n 0, 1, [], .inl 0, []) else none
def kJ6_numberOfLeadingZeros_0f7a4 (pc : Nat) : Option Ent := bif Nat.ble 79 pc then none else
 bif Nat.ble 46 pc then
  bif Nat.ble 63 pc then
   bif Nat.ble 73 pc then
    bif Nat.ble 76 pc then
     bif Nat.ble 77 pc then
      bif Nat.ble 78 pc then
       bif Nat.beq pc 78 then some (.ireturn, 1, [], .inl 0, []) else none
      else
       bif Nat.beq pc 77 then some (.isub, 1, [], .inl 0, []) else none
     else
      bif Nat.beq pc 76 then some (.iushr, 1, [], .inl 0, []) else none
    else
     bif Nat.ble 74 pc then
      bif Nat.ble 75 pc then
       bif Nat.beq pc 75 then some (.iconst 1, 1, [], .inl (1), []) else none
      else
       bif Nat.beq pc 74 then some (.iload_n 0, 1, [], .inl 0, []) else none
     else
      bif Nat.beq pc 73 then some (.iload_n 1, 1, [], .inl 0, []) else none
   else
    bif Nat.ble 70 pc then
     bif Nat.ble 71 pc then
      bif Nat.ble 72 pc then
       bif Nat.beq pc 72 then some (.istore_n 0, 1, [], .inl 0, []) else none
      else
       bif Nat.beq pc 71 then some (.iushr, 1, [], .inl 0, []) else none
     else
      bif Nat.beq pc 70 then some (.iconst 2, 1, [], .inl (2), []) else none
    else
     bif Nat.ble 66 pc then
      bif Nat.ble 69 pc then
       bif Nat.beq pc 69 then some (.iload_n 0, 1, [], .inl 0, []) else none
      else
       bif Nat.beq pc 66 then some (.iinc 1 (-2), 3, [], .inl (-2), []) else none
     else
      bif Nat.beq pc 63 then some (.if_icmp .lt 10, 3, [], .inl 0, []) else none
  else
   bif Nat.ble 57 pc then
    bif Nat.ble 60 pc then
     bif Nat.ble 61 pc then
      bif Nat.ble 62 pc then
       bif Nat.beq pc 62 then some (.iconst 4, 1, [], .inl (4), []) else none
      else
       bif Nat.beq pc 61 then some (.iload_n 0, 1, [], .inl 0, []) else none
     else
      bif Nat.beq pc 60 then some (.istore_n 0, 1, [], .inl 0, []) else none
    else
     bif Nat.ble 58 pc then
      bif Nat.ble 59 pc then
       bif Nat.beq pc 59 then some (.iushr, 1, [], .inl 0, []) else none
      else
       bif Nat.beq pc 58 then some (.iconst 4, 1, [], .inl (4), []) else none
     else
      bif Nat.beq pc 57 then some (.iload_n 0, 1, [], .inl 0, []) else none
   else
    bif Nat.ble 49 pc then
     bif Nat.ble 51 pc then
      bif Nat.ble 54 pc then
       bif Nat.beq pc 54 then some (.iinc 1 (-4), 3, [], .inl (-4), []) else none
      else
       bif Nat.beq pc 51 then some (.if_icmp .lt 10, 3, [], .inl 0, []) else none
     else
      bif Nat.beq pc 49 then some (.bipush 16, 2, [], .inl (16), []) else none
    else
     bif Nat.ble 47 pc then
      bif Nat.ble 48 pc then
       bif Nat.beq pc 48 then some (.iload_n 0, 1, [], .inl 0, []) else none
      else
       bif Nat.beq pc 47 then some (.istore_n 0, 1, [], .inl 0, []) else none
     else
      bif Nat.beq pc 46 then some (.iushr, 1, [], .inl 0, []) else none
 else
  bif Nat.ble 22 pc then
   bif Nat.ble 33 pc then
    bif Nat.ble 40 pc then
     bif Nat.ble 43 pc then
      bif Nat.ble 44 pc then
       bif Nat.beq pc 44 then some (.bipush 8, 2, [], .inl (8), []) else none
      else
       bif Nat.beq pc 43 then some (.iload_n 0, 1, [], .inl 0, []) else none
     else
      bif Nat.beq pc 40 then some (.iinc 1 (-8), 3, [], .inl (-8), []) else none
    else
     bif Nat.ble 34 pc then
      bif Nat.ble 37 pc then
       bif Nat.beq pc 37 then some (.if_icmp .lt 11, 3, [], .inl 0, []) else none
      else
       bif Nat.beq pc 34 then some (.sipush 256, 3, [], .inl (256), []) else none
     else
      bif Nat.beq pc 33 then some (.iload_n 0, 1, [], .inl 0, []) else none
   else
    bif Nat.ble 29 pc then
     bif Nat.ble 31 pc then
      bif Nat.ble 32 pc then
       bif Nat.beq pc 32 then some (.istore_n 0, 1, [], .inl 0, []) else none
      else
       bif Nat.beq pc 31 then some (.iushr, 1, [], .inl 0, []) else none
     else
      bif Nat.beq pc 29 then some (.bipush 16, 2, [], .inl (16), []) else none
    else
     bif Nat.ble 25 pc then
      bif Nat.ble 28 pc then
       bif Nat.beq pc 28 then some (.iload_n 0, 1, [], .inl 0, []) else none
      else
       bif Nat.beq pc 25 then some (.iinc 1 (-16), 3, [], .inl (-16), []) else none
     else
      bif Nat.beq pc 22 then some (.if_icmp .lt 11, 3, [], .inl 0, []) else none
  else
   bif Nat.ble 13 pc then
    bif Nat.ble 17 pc then
     bif Nat.ble 18 pc then
      bif Nat.ble 19 pc then
       bif Nat.beq pc 19 then some (.ldc_w 264, 3, [], .inl (65536), []) else none
      else
       bif Nat.beq pc 18 then some (.iload_n 0, 1, [], .inl 0, []) else none
     else
      bif Nat.beq pc 17 then some (.istore_n 1, 1, [], .inl 0, []) else none
    else
     bif Nat.ble 14 pc then
      bif Nat.ble 15 pc then
       bif Nat.beq pc 15 then some (.bipush 31, 2, [], .inl (31), []) else none
      else
       bif Nat.beq pc 14 then some (.ireturn, 1, [], .inl 0, [0, 1]) else none
     else
      bif Nat.beq pc 13 then some (.iconst 0, 1, [], .inl (0), []) else none
   else
    bif Nat.ble 5 pc then
     bif Nat.ble 8 pc then
      bif Nat.ble 10 pc then
       bif Nat.beq pc 10 then some (.goto 4, 3, [], .inl 0, []) else none
      else
       bif Nat.beq pc 8 then some (.bipush 32, 2, [], .inl (32), []) else none
     else
      bif Nat.beq pc 5 then some (.ifCond .ne 8, 3, [], .inl 0, []) else none
    else
     bif Nat.ble 1 pc then
      bif Nat.ble 4 pc then
       bif Nat.beq pc 4 then some (.iload_n 0, 1, [], .inl 0, []) else none
      else
       bif Nat.beq pc 1 then some (.ifCond .gt 14, 3, [], .inl 0, []) else none
     else
      bif Nat.beq pc 0 then some (.iload_n 0, 1, [], .inl 0, []) else none
def kJ13_numberOfLeadingZeros_95d88 (pc : Nat) : Option Ent := bif Nat.ble 26 pc then none else
 bif Nat.ble 12 pc then
  bif Nat.ble 18 pc then
   bif Nat.ble 22 pc then
    bif Nat.ble 25 pc then
     bif Nat.beq pc 25 then some (.ireturn, 1, [], .inl 0, []) else none
    else
     bif Nat.beq pc 22 then some (.invokestatic 308, 3, [4, 1, 1, 2, 100], .inl 0, []) else none
   else
    bif Nat.ble 21 pc then
     bif Nat.beq pc 21 then some (.iload_n 2, 1, [], .inl 0, []) else none
    else
     bif Nat.beq pc 18 then some (.goto 7, 3, [], .inl 0, []) else none
  else
   bif Nat.ble 14 pc then
    bif Nat.ble 17 pc then
     bif Nat.beq pc 17 then some (.iadd, 1, [], .inl 0, []) else none
    else
     bif Nat.beq pc 14 then some (.invokestatic 308, 3, [4, 1, 1, 2, 100], .inl 0, []) else none
   else
    bif Nat.ble 13 pc then
     bif Nat.beq pc 13 then some (.l2i, 1, [], .inl 0, []) else none
    else
     bif Nat.beq pc 12 then some (.lload_n 0, 1, [], .inl 0, []) else none
 else
  bif Nat.ble 5 pc then
   bif Nat.ble 7 pc then
    bif Nat.ble 10 pc then
     bif Nat.beq pc 10 then some (.bipush 32, 2, [], .inl (32), []) else none
    else
     bif Nat.beq pc 7 then some (.ifCond .ne 14, 3, [], .inl 0, []) else none
   else
    bif Nat.ble 6 pc then
     bif Nat.beq pc 6 then some (.iload_n 2, 1, [], .inl 0, []) else none
    else
     bif Nat.beq pc 5 then some (.istore_n 2, 1, [], .inl 0, []) else none
  else
   bif Nat.ble 3 pc then
    bif Nat.ble 4 pc then
     bif Nat.beq pc 4 then some (.l2i, 1, [], .inl 0, []) else none
    else
     bif Nat.beq pc 3 then some (.lushr, 1, [], .inl 0, []) else none
   else
    bif Nat.ble 1 pc then
     bif Nat.beq pc 1 then some (.bipush 32, 2, [], .inl (32), []) else none
    else
     bif Nat.beq pc 0 then some (.lload_n 0, 1, [], .inl 0, []) else none
def kJ13_bitCount_95d88 (pc : Nat) : Option Ent := bif Nat.ble 61 pc then none else
 bif Nat.ble 32 pc then
  bif Nat.ble 46 pc then
   bif Nat.ble 53 pc then
    bif Nat.ble 56 pc then
     bif Nat.ble 59 pc then
      bif Nat.ble 60 pc then
       bif Nat.beq pc 60 then some (.ireturn, 1, [], .inl 0, []) else none
      else
       bif Nat.beq pc 59 then some (.iand, 1, [], .inl 0, []) else none
     else
      bif Nat.ble 57 pc then
       bif Nat.beq pc 57 then some (.bipush 127, 2, [], .inl (127), [0, 1]) else none
      else
       bif Nat.beq pc 56 then some (.l2i, 1, [], .inl 0, []) else none
    else
     bif Nat.ble 54 pc then
      bif Nat.ble 55 pc then
       bif Nat.beq pc 55 then some (.lload_n 0, 1, [], .inl 0, [1]) else none
      else
       bif Nat.beq pc 54 then some (.lstore_n 0, 1, [], .inl 0, []) else none
     else
      bif Nat.beq pc 53 then some (.ladd, 1, [], .inl 0, []) else none
   else
    bif Nat.ble 49 pc then
     bif Nat.ble 50 pc then
      bif Nat.ble 52 pc then
       bif Nat.beq pc 52 then some (.lushr, 1, [], .inl 0, []) else none
      else
       bif Nat.beq pc 50 then some (.bipush 32, 2, [], .inl (32), []) else none
     else
      bif Nat.beq pc 49 then some (.lload_n 0, 1, [], .inl 0, []) else none
    else
     bif Nat.ble 47 pc then
      bif Nat.ble 48 pc then
       bif Nat.beq pc 48 then some (.lload_n 0, 1, [], .inl 0, [1]) else none
      else
       bif Nat.beq pc 47 then some (.lstore_n 0, 1, [], .inl 0, []) else none
     else
      bif Nat.beq pc 46 then some (.ladd, 1, [], .inl 0, []) else none
  else
   bif Nat.ble 39 pc then
    bif Nat.ble 42 pc then
     bif Nat.ble 43 pc then
      bif Nat.ble 45 pc then
       bif Nat.beq pc 45 then some (.lushr, 1, [], .inl 0, []) else none
      else
       bif Nat.beq pc 43 then some (.bipush 16, 2, [], .inl (16), []) else none
     else
      bif Nat.beq pc 42 then some (.lload_n 0, 1, [], .inl 0, []) else none
    else
     bif Nat.ble 40 pc then
      bif Nat.ble 41 pc then
       bif Nat.beq pc 41 then some (.lload_n 0, 1, [], .inl 0, [1]) else none
      else
       bif Nat.beq pc 40 then some (.lstore_n 0, 1, [], .inl 0, []) else none
     else
      bif Nat.beq pc 39 then some (.ladd, 1, [], .inl 0, []) else none
   else
    bif Nat.ble 35 pc then
     bif Nat.ble 36 pc then
      bif Nat.ble 38 pc then
       bif Nat.beq pc 38 then some (.lushr, 1, [], .inl 0, []) else none
      else
       bif Nat.beq pc 36 then some (.bipush 8, 2, [], .inl (8), []) else none
     else
      bif Nat.beq pc 35 then some (.lload_n 0, 1, [], .inl 0, []) else none
    else
     bif Nat.ble 33 pc then
      bif Nat.ble 34 pc then
       bif Nat.beq pc 34 then some (.lload_n 0, 1, [], .inl 0, [1]) else none
      else
       bif Nat.beq pc 33 then some (.lstore_n 0, 1, [], .inl 0, []) else none
     else
      bif Nat.beq pc 32 then some (.land, 1, [], .inl 0, []) else none
 else
  bif Nat.ble 16 pc then
   bif Nat.ble 24 pc then
    bif Nat.ble 27 pc then
     bif Nat.ble 28 pc then
      bif Nat.ble 29 pc then
       bif Nat.beq pc 29 then some (.ldc2_w 318, 3, [], .inr (.inl (1085102592571150095)), []) else none
      else
       bif Nat.beq pc 28 then some (.ladd, 1, [], .inl 0, []) else none
     else
      bif Nat.beq pc 27 then some (.lushr, 1, [], .inl 0, []) else none
    else
     bif Nat.ble 25 pc then
      bif Nat.ble 26 pc then
       bif Nat.beq pc 26 then some (.iconst 4, 1, [], .inl (4), []) else none
      else
       bif Nat.beq pc 25 then some (.lload_n 0, 1, [], .inl 0, []) else none
     else
      bif Nat.beq pc 24 then some (.lload_n 0, 1, [], .inl 0, [1]) else none
   else
    bif Nat.ble 21 pc then
     bif Nat.ble 22 pc then
      bif Nat.ble 23 pc then
       bif Nat.beq pc 23 then some (.lstore_n 0, 1, [], .inl 0, []) else none
      else
       bif Nat.beq pc 22 then some (.ladd, 1, [], .inl 0, []) else none
     else
      bif Nat.beq pc 21 then some (.land, 1, [], .inl 0, []) else none
    else
     bif Nat.ble 17 pc then
      bif Nat.ble 18 pc then
       bif Nat.beq pc 18 then some (.ldc2_w 316, 3, [], .inr (.inl (3689348814741910323)), []) else none
      else
       bif Nat.beq pc 17 then some (.lushr, 1, [], .inl 0, []) else none
     else
      bif Nat.beq pc 16 then some (.iconst 2, 1, [], .inl (2), []) else none
  else
   bif Nat.ble 8 pc then
    bif Nat.ble 11 pc then
     bif Nat.ble 14 pc then
      bif Nat.ble 15 pc then
       bif Nat.beq pc 15 then some (.lload_n 0, 1, [], .inl 0, []) else none
      else
       bif Nat.beq pc 14 then some (.land, 1, [], .inl 0, []) else none
     else
      bif Nat.beq pc 11 then some (.ldc2_w 316, 3, [], .inr (.inl (3689348814741910323)), []) else none
    else
     bif Nat.ble 9 pc then
      bif Nat.ble 10 pc then
       bif Nat.beq pc 10 then some (.lload_n 0, 1, [], .inl 0, [1]) else none
      else
       bif Nat.beq pc 9 then some (.lstore_n 0, 1, [], .inl 0, []) else none
     else
      bif Nat.beq pc 8 then some (.lsub, 1, [], .inl 0, []) else none
   else
    bif Nat.ble 3 pc then
     bif Nat.ble 4 pc then
      bif Nat.ble 7 pc then
       bif Nat.beq pc 7 then some (.land, 1, [], .inl 0, []) else none
      else
       bif Nat.beq pc 4 then some (.ldc2_w 314, 3, [], .inr (.inl (6148914691236517205)), []) else none
     else
      bif Nat.beq pc 3 then some (.lushr, 1, [], .inl 0, []) else none
    else
     bif Nat.ble 1 pc then
      bif Nat.ble 2 pc then
       bif Nat.beq pc 2 then some (.iconst 1, 1, [], .inl (1), []) else none
      else
       bif Nat.beq pc 1 then some (.lload_n 0, 1, [], .inl 0, []) else none
     else
      bif Nat.beq pc 0 then some (.lload_n 0, 1, [], .inl 0, []) else none
def kJ9_max_7cf53 (pc : Nat) : Option Ent := bif Nat.ble 11 pc then none else
 bif Nat.ble 5 pc then
  bif Nat.ble 9 pc then
   bif Nat.ble 10 pc then
    bif Nat.beq pc 10 then some (.ireturn, 1, [], .inl 0, []) else none
   else
    bif Nat.beq pc 9 then some (.iload_n 1, 1, [], .inl 0, []) else none
  else
   bif Nat.ble 6 pc then
    bif Nat.beq pc 6 then some (.goto 4, 3, [], .inl 0, []) else none
   else
    bif Nat.beq pc 5 then some (.iload_n 0, 1, [], .inl 0, []) else none
 else
  bif Nat.ble 1 pc then
   bif Nat.ble 2 pc then
    bif Nat.beq pc 2 then some (.if_icmp .lt 7, 3, [], .inl 0, []) else none
   else
    bif Nat.beq pc 1 then some (.iload_n 1, 1, [], .inl 0, []) else none
  else
   bif Nat.beq pc 0 then some (.iload_n 0, 1, [], .inl 0, []) else none
def kJ9_min_7cf53 (pc : Nat) : Option Ent := bif Nat.ble 11 pc then none else
 bif Nat.ble 5 pc then
  bif Nat.ble 9 pc then
   bif Nat.ble 10 pc then
    bif Nat.beq pc 10 then some (.ireturn, 1, [], .inl 0, []) else none
   else
    bif Nat.beq pc 9 then some (.iload_n 1, 1, [], .inl 0, []) else none
  else
   bif Nat.ble 6 pc then
    bif Nat.beq pc 6 then some (.goto 4, 3, [], .inl 0, []) else none
   else
    bif Nat.beq pc 5 then some (.iload_n 0, 1, [], .inl 0, []) else none
 else
  bif Nat.ble 1 pc then
   bif Nat.ble 2 pc then
    bif Nat.beq pc 2 then some (.if_icmp .gt 7, 3, [], .inl 0, []) else none
   else
    bif Nat.beq pc 1 then some (.iload_n 1, 1, [], .inl 0, []) else none
  else
   bif Nat.beq pc 0 then some (.iload_n 0, 1, [], .inl 0, []) else none
def kJxa1e45_init_da8c8 (pc : Nat) : Option Ent := bif Nat.ble 5 pc then none else
 bif Nat.ble 1 pc then
  bif Nat.ble 4 pc then
   bif Nat.beq pc 4 then some (.return_, 1, [], .inl 0, []) else none
  else
   bif Nat.beq pc 1 then some (.invokespecial 1, 3, [9000], .inl 0, []) else none
 else
  bif Nat.beq pc 0 then some (.aload_n 0, 1, [], .inl 0, []) else none
def kJxc12de_init_da8c8 (pc : Nat) : Option Ent := bif Nat.ble 10 pc then none else
 bif Nat.ble 5 pc then
  bif Nat.ble 6 pc then
   bif Nat.ble 9 pc then
    bif Nat.beq pc 9 then some (.return_, 1, [], .inl 0, []) else none
   else
    bif Nat.beq pc 6 then some (.putfield 7, 3, [0, 0, 0], .inl 0, []) else none
  else
   bif Nat.beq pc 5 then some (.iconst 0, 1, [], .inl (0), []) else none
 else
  bif Nat.ble 1 pc then
   bif Nat.ble 4 pc then
    bif Nat.beq pc 4 then some (.aload_n 0, 1, [], .inl 0, []) else none
   else
    bif Nat.beq pc 1 then some (.invokespecial 1, 3, [9, 1, 0, 1, 0], .inl 0, []) else none
  else
   bif Nat.beq pc 0 then some (.aload_n 0, 1, [], .inl 0, []) else none
def kJx4a65c_init_da8c8 (pc : Nat) : Option Ent := bif Nat.ble 12 pc then none else
 bif Nat.ble 5 pc then
  bif Nat.ble 8 pc then
   bif Nat.ble 11 pc then
    bif Nat.beq pc 11 then some (.return_, 1, [], .inl 0, []) else none
   else
    bif Nat.beq pc 8 then some (.putfield 9, 3, [0, 1, 2], .inl 0, []) else none
  else
   bif Nat.beq pc 5 then some (.getstatic 39, 3, [3], .inl 0, []) else none
 else
  bif Nat.ble 1 pc then
   bif Nat.ble 4 pc then
    bif Nat.beq pc 4 then some (.aload_n 0, 1, [], .inl 0, []) else none
   else
    bif Nat.beq pc 1 then some (.invokespecial 1, 3, [10, 1, 0, 1, 0], .inl 0, []) else none
  else
   bif Nat.beq pc 0 then some (.aload_n 0, 1, [], .inl 0, []) else none
def kJx4a65c_grow_92f84 (pc : Nat) : Option Ent := bif Nat.ble 60 pc then none else
 bif Nat.ble 27 pc then
  bif Nat.ble 44 pc then
   bif Nat.ble 49 pc then
    bif Nat.ble 55 pc then
     bif Nat.ble 56 pc then
      bif Nat.ble 59 pc then
       bif Nat.beq pc 59 then some (.areturn, 1, [], .inl 0, []) else none
      else
       bif Nat.beq pc 56 then some (.putfield 9, 3, [0, 1, 2], .inl 0, []) else none
     else
      bif Nat.beq pc 55 then some (.dup_x1, 1, [], .inl 0, []) else none
    else
     bif Nat.ble 52 pc then
      bif Nat.beq pc 52 then some (.anewarray 7, 3, [23], .inl 0, []) else none
     else
      bif Nat.beq pc 49 then some (.invokestatic 79, 3, [7, 2, 1, 2, 100], .inl 0, []) else none
   else
    bif Nat.ble 46 pc then
     bif Nat.ble 48 pc then
      bif Nat.beq pc 48 then some (.iload_n 1, 1, [], .inl 0, []) else none
     else
      bif Nat.beq pc 46 then some (.bipush 10, 2, [], .inl (10), []) else none
    else
     bif Nat.ble 45 pc then
      bif Nat.beq pc 45 then some (.aload_n 0, 1, [], .inl 0, []) else none
     else
      bif Nat.beq pc 44 then some (.areturn, 1, [], .inl 0, []) else none
  else
   bif Nat.ble 33 pc then
    bif Nat.ble 37 pc then
     bif Nat.ble 40 pc then
      bif Nat.ble 41 pc then
       bif Nat.beq pc 41 then some (.putfield 9, 3, [0, 1, 2], .inl 0, []) else none
      else
       bif Nat.beq pc 40 then some (.dup_x1, 1, [], .inl 0, []) else none
     else
      bif Nat.beq pc 37 then some (.invokestatic 66, 3, [23, 2, 3, 2, 100], .inl 0, []) else none
    else
     bif Nat.ble 36 pc then
      bif Nat.beq pc 36 then some (.iload_n 3, 1, [], .inl 0, []) else none
     else
      bif Nat.beq pc 33 then some (.getfield 9, 3, [0, 1, 2], .inl 0, []) else none
   else
    bif Nat.ble 31 pc then
     bif Nat.ble 32 pc then
      bif Nat.beq pc 32 then some (.aload_n 0, 1, [], .inl 0, []) else none
     else
      bif Nat.beq pc 31 then some (.aload_n 0, 1, [], .inl 0, []) else none
    else
     bif Nat.ble 30 pc then
      bif Nat.beq pc 30 then some (.istore_n 3, 1, [], .inl 0, []) else none
     else
      bif Nat.beq pc 27 then some (.invokestatic 73, 3, [27, 3, 1, 4, 100], .inl 0, []) else none
 else
  bif Nat.ble 14 pc then
   bif Nat.ble 22 pc then
    bif Nat.ble 24 pc then
     bif Nat.ble 25 pc then
      bif Nat.ble 26 pc then
       bif Nat.beq pc 26 then some (.ishr, 1, [], .inl 0, []) else none
      else
       bif Nat.beq pc 25 then some (.iconst 1, 1, [], .inl (1), []) else none
     else
      bif Nat.beq pc 24 then some (.iload_n 2, 1, [], .inl 0, []) else none
    else
     bif Nat.ble 23 pc then
      bif Nat.beq pc 23 then some (.isub, 1, [], .inl 0, []) else none
     else
      bif Nat.beq pc 22 then some (.iload_n 2, 1, [], .inl 0, []) else none
   else
    bif Nat.ble 20 pc then
     bif Nat.ble 21 pc then
      bif Nat.beq pc 21 then some (.iload_n 1, 1, [], .inl 0, []) else none
     else
      bif Nat.beq pc 20 then some (.iload_n 2, 1, [], .inl 0, []) else none
    else
     bif Nat.ble 17 pc then
      bif Nat.beq pc 17 then some (.if_acmp .eq 28, 3, [], .inl 0, []) else none
     else
      bif Nat.beq pc 14 then some (.getstatic 39, 3, [3], .inl 0, []) else none
  else
   bif Nat.ble 6 pc then
    bif Nat.ble 10 pc then
     bif Nat.ble 11 pc then
      bif Nat.beq pc 11 then some (.getfield 9, 3, [0, 1, 2], .inl 0, []) else none
     else
      bif Nat.beq pc 10 then some (.aload_n 0, 1, [], .inl 0, []) else none
    else
     bif Nat.ble 7 pc then
      bif Nat.beq pc 7 then some (.ifCond .gt 13, 3, [], .inl 0, []) else none
     else
      bif Nat.beq pc 6 then some (.iload_n 2, 1, [], .inl 0, []) else none
   else
    bif Nat.ble 4 pc then
     bif Nat.ble 5 pc then
      bif Nat.beq pc 5 then some (.istore_n 2, 1, [], .inl 0, []) else none
     else
      bif Nat.beq pc 4 then some (.arraylength, 1, [], .inl 0, []) else none
    else
     bif Nat.ble 1 pc then
      bif Nat.beq pc 1 then some (.getfield 9, 3, [0, 1, 2], .inl 0, []) else none
     else
      bif Nat.beq pc 0 then some (.aload_n 0, 1, [], .inl 0, []) else none
def kJx4a65c_grow_d5877 (pc : Nat) : Option Ent := bif Nat.ble 11 pc then none else
 bif Nat.ble 5 pc then
  bif Nat.ble 7 pc then
   bif Nat.ble 10 pc then
    bif Nat.beq pc 10 then some (.areturn, 1, [], .inl 0, []) else none
   else
    bif Nat.beq pc 7 then some (.invokevirtual 69, 3, [12, 2, 3, 4, 0], .inl 0, []) else none
  else
   bif Nat.ble 6 pc then
    bif Nat.beq pc 6 then some (.iadd, 1, [], .inl 0, []) else none
   else
    bif Nat.beq pc 5 then some (.iconst 1, 1, [], .inl (1), []) else none
 else
  bif Nat.ble 1 pc then
   bif Nat.ble 2 pc then
    bif Nat.beq pc 2 then some (.getfield 48, 3, [0, 2, 0], .inl 0, []) else none
   else
    bif Nat.beq pc 1 then some (.aload_n 0, 1, [], .inl 0, []) else none
  else
   bif Nat.beq pc 0 then some (.aload_n 0, 1, [], .inl 0, []) else none
def kJx4a65c_size_8abf5 (pc : Nat) : Option Ent := bif Nat.ble 5 pc then none else
 bif Nat.ble 1 pc then
  bif Nat.ble 4 pc then
   bif Nat.beq pc 4 then some (.ireturn, 1, [], .inl 0, []) else none
  else
   bif Nat.beq pc 1 then some (.getfield 48, 3, [0, 2, 0], .inl 0, []) else none
 else
  bif Nat.beq pc 0 then some (.aload_n 0, 1, [], .inl 0, []) else none
def kJx4a65c_elementData_915e3 (pc : Nat) : Option Ent := bif Nat.ble 7 pc then none else
 bif Nat.ble 4 pc then
  bif Nat.ble 5 pc then
   bif Nat.ble 6 pc then
    bif Nat.beq pc 6 then some (.areturn, 1, [], .inl 0, []) else none
   else
    bif Nat.beq pc 5 then some (.aaload, 1, [], .inl 0, []) else none
  else
   bif Nat.beq pc 4 then some (.iload_n 1, 1, [], .inl 0, []) else none
 else
  bif Nat.ble 1 pc then
   bif Nat.beq pc 1 then some (.getfield 9, 3, [0, 1, 2], .inl 0, []) else none
  else
   bif Nat.beq pc 0 then some (.aload_n 0, 1, [], .inl 0, []) else none
def kJx4a65c_get_915e3 (pc : Nat) : Option Ent := bif Nat.ble 15 pc then none else
 bif Nat.ble 8 pc then
  bif Nat.ble 10 pc then
   bif Nat.ble 11 pc then
    bif Nat.ble 14 pc then
     bif Nat.beq pc 14 then some (.areturn, 1, [], .inl 0, []) else none
    else
     bif Nat.beq pc 11 then some (.invokevirtual 123, 3, [15, 2, 3, 2, 0], .inl 0, []) else none
   else
    bif Nat.beq pc 10 then some (.iload_n 1, 1, [], .inl 0, []) else none
  else
   bif Nat.ble 9 pc then
    bif Nat.beq pc 9 then some (.aload_n 0, 1, [], .inl 0, []) else none
   else
    bif Nat.beq pc 8 then some (.pop, 1, [], .inl 0, []) else none
 else
  bif Nat.ble 2 pc then
   bif Nat.ble 5 pc then
    bif Nat.beq pc 5 then some (.invokestatic 118, 3, [26, 2, 1, 2, 100], .inl 0, []) else none
   else
    bif Nat.beq pc 2 then some (.getfield 48, 3, [0, 2, 0], .inl 0, []) else none
  else
   bif Nat.ble 1 pc then
    bif Nat.beq pc 1 then some (.aload_n 0, 1, [], .inl 0, []) else none
   else
    bif Nat.beq pc 0 then some (.iload_n 1, 1, [], .inl 0, []) else none
def kJx4a65c_set_bcc79 (pc : Nat) : Option Ent := bif Nat.ble 24 pc then none else
 bif Nat.ble 14 pc then
  bif Nat.ble 20 pc then
   bif Nat.ble 22 pc then
    bif Nat.ble 23 pc then
     bif Nat.beq pc 23 then some (.areturn, 1, [], .inl 0, []) else none
    else
     bif Nat.beq pc 22 then some (.aload_n 3, 1, [], .inl 0, []) else none
   else
    bif Nat.ble 21 pc then
     bif Nat.beq pc 21 then some (.aastore, 1, [], .inl 0, []) else none
    else
     bif Nat.beq pc 20 then some (.aload_n 2, 1, [], .inl 0, []) else none
  else
   bif Nat.ble 16 pc then
    bif Nat.ble 19 pc then
     bif Nat.beq pc 19 then some (.iload_n 1, 1, [], .inl 0, []) else none
    else
     bif Nat.beq pc 16 then some (.getfield 9, 3, [0, 1, 2], .inl 0, []) else none
   else
    bif Nat.ble 15 pc then
     bif Nat.beq pc 15 then some (.aload_n 0, 1, [], .inl 0, []) else none
    else
     bif Nat.beq pc 14 then some (.astore_n 3, 1, [], .inl 0, []) else none
 else
  bif Nat.ble 8 pc then
   bif Nat.ble 10 pc then
    bif Nat.ble 11 pc then
     bif Nat.beq pc 11 then some (.invokevirtual 123, 3, [15, 2, 3, 2, 0], .inl 0, []) else none
    else
     bif Nat.beq pc 10 then some (.iload_n 1, 1, [], .inl 0, []) else none
   else
    bif Nat.ble 9 pc then
     bif Nat.beq pc 9 then some (.aload_n 0, 1, [], .inl 0, []) else none
    else
     bif Nat.beq pc 8 then some (.pop, 1, [], .inl 0, []) else none
  else
   bif Nat.ble 2 pc then
    bif Nat.ble 5 pc then
     bif Nat.beq pc 5 then some (.invokestatic 118, 3, [26, 2, 1, 2, 100], .inl 0, []) else none
    else
     bif Nat.beq pc 2 then some (.getfield 48, 3, [0, 2, 0], .inl 0, []) else none
   else
    bif Nat.ble 1 pc then
     bif Nat.beq pc 1 then some (.aload_n 0, 1, [], .inl 0, []) else none
    else
     bif Nat.beq pc 0 then some (.iload_n 1, 1, [], .inl 0, []) else none
def kJx4a65c_add_72be8 (pc : Nat) : Option Ent := bif Nat.ble 23 pc then none else
 bif Nat.ble 12 pc then
  bif Nat.ble 16 pc then
   bif Nat.ble 18 pc then
    bif Nat.ble 19 pc then
     bif Nat.ble 22 pc then
      bif Nat.beq pc 22 then some (.return_, 1, [], .inl 0, []) else none
     else
      bif Nat.beq pc 19 then some (.putfield 48, 3, [0, 2, 0], .inl 0, []) else none
    else
     bif Nat.beq pc 18 then some (.iadd, 1, [], .inl 0, []) else none
   else
    bif Nat.ble 17 pc then
     bif Nat.beq pc 17 then some (.iconst 1, 1, [], .inl (1), []) else none
    else
     bif Nat.beq pc 16 then some (.iload_n 3, 1, [], .inl 0, []) else none
  else
   bif Nat.ble 14 pc then
    bif Nat.ble 15 pc then
     bif Nat.beq pc 15 then some (.aload_n 0, 1, [], .inl 0, []) else none
    else
     bif Nat.beq pc 14 then some (.aastore, 1, [], .inl 0, []) else none
   else
    bif Nat.ble 13 pc then
     bif Nat.beq pc 13 then some (.aload_n 1, 1, [], .inl 0, []) else none
    else
     bif Nat.beq pc 12 then some (.iload_n 3, 1, [], .inl 0, []) else none
 else
  bif Nat.ble 6 pc then
   bif Nat.ble 10 pc then
    bif Nat.ble 11 pc then
     bif Nat.beq pc 11 then some (.aload_n 2, 1, [], .inl 0, []) else none
    else
     bif Nat.beq pc 10 then some (.astore_n 2, 1, [], .inl 0, []) else none
   else
    bif Nat.ble 7 pc then
     bif Nat.beq pc 7 then some (.invokevirtual 129, 3, [13, 1, 3, 1, 0], .inl 0, []) else none
    else
     bif Nat.beq pc 6 then some (.aload_n 0, 1, [], .inl 0, []) else none
  else
   bif Nat.ble 2 pc then
    bif Nat.ble 3 pc then
     bif Nat.beq pc 3 then some (.if_icmp .ne 8, 3, [], .inl 0, []) else none
    else
     bif Nat.beq pc 2 then some (.arraylength, 1, [], .inl 0, []) else none
   else
    bif Nat.ble 1 pc then
     bif Nat.beq pc 1 then some (.aload_n 2, 1, [], .inl 0, []) else none
    else
     bif Nat.beq pc 0 then some (.iload_n 3, 1, [], .inl 0, []) else none
def kJx4a65c_add_9ea2d (pc : Nat) : Option Ent := bif Nat.ble 25 pc then none else
 bif Nat.ble 11 pc then
  bif Nat.ble 17 pc then
   bif Nat.ble 23 pc then
    bif Nat.ble 24 pc then
     bif Nat.beq pc 24 then some (.ireturn, 1, [1], .inl 0, []) else none
    else
     bif Nat.beq pc 23 then some (.iconst 1, 1, [], .inl (1), []) else none
   else
    bif Nat.ble 20 pc then
     bif Nat.beq pc 20 then some (.invokevirtual 131, 3, [18, 4, 0, 4, 0], .inl 0, []) else none
    else
     bif Nat.beq pc 17 then some (.getfield 48, 3, [0, 2, 0], .inl 0, []) else none
  else
   bif Nat.ble 13 pc then
    bif Nat.ble 16 pc then
     bif Nat.beq pc 16 then some (.aload_n 0, 1, [], .inl 0, []) else none
    else
     bif Nat.beq pc 13 then some (.getfield 9, 3, [0, 1, 2], .inl 0, []) else none
   else
    bif Nat.ble 12 pc then
     bif Nat.beq pc 12 then some (.aload_n 0, 1, [], .inl 0, []) else none
    else
     bif Nat.beq pc 11 then some (.aload_n 1, 1, [], .inl 0, []) else none
 else
  bif Nat.ble 5 pc then
   bif Nat.ble 7 pc then
    bif Nat.ble 10 pc then
     bif Nat.beq pc 10 then some (.aload_n 0, 1, [], .inl 0, []) else none
    else
     bif Nat.beq pc 7 then some (.putfield 63, 3, [0, 0, 0], .inl 0, []) else none
   else
    bif Nat.ble 6 pc then
     bif Nat.beq pc 6 then some (.iadd, 1, [], .inl 0, []) else none
    else
     bif Nat.beq pc 5 then some (.iconst 1, 1, [], .inl (1), []) else none
  else
   bif Nat.ble 1 pc then
    bif Nat.ble 2 pc then
     bif Nat.beq pc 2 then some (.getfield 63, 3, [0, 0, 0], .inl 0, []) else none
    else
     bif Nat.beq pc 1 then some (.dup, 1, [], .inl 0, []) else none
   else
    bif Nat.beq pc 0 then some (.aload_n 0, 1, [], .inl 0, []) else none
def kJx4a65c_remove_915e3 (pc : Nat) : Option Ent := bif Nat.ble 26 pc then none else
 bif Nat.ble 15 pc then
  bif Nat.ble 19 pc then
   bif Nat.ble 21 pc then
    bif Nat.ble 24 pc then
     bif Nat.ble 25 pc then
      bif Nat.beq pc 25 then some (.areturn, 1, [], .inl 0, []) else none
     else
      bif Nat.beq pc 24 then some (.aload_n 3, 1, [], .inl 0, []) else none
    else
     bif Nat.beq pc 21 then some (.invokevirtual 144, 3, [21, 3, 0, 4, 0], .inl 0, []) else none
   else
    bif Nat.ble 20 pc then
     bif Nat.beq pc 20 then some (.iload_n 1, 1, [], .inl 0, []) else none
    else
     bif Nat.beq pc 19 then some (.aload_n 2, 1, [], .inl 0, []) else none
  else
   bif Nat.ble 17 pc then
    bif Nat.ble 18 pc then
     bif Nat.beq pc 18 then some (.aload_n 0, 1, [], .inl 0, []) else none
    else
     bif Nat.beq pc 17 then some (.astore_n 3, 1, [], .inl 0, []) else none
   else
    bif Nat.ble 16 pc then
     bif Nat.beq pc 16 then some (.aaload, 1, [], .inl 0, []) else none
    else
     bif Nat.beq pc 15 then some (.iload_n 1, 1, [], .inl 0, []) else none
 else
  bif Nat.ble 8 pc then
   bif Nat.ble 10 pc then
    bif Nat.ble 13 pc then
     bif Nat.ble 14 pc then
      bif Nat.beq pc 14 then some (.aload_n 2, 1, [], .inl 0, []) else none
     else
      bif Nat.beq pc 13 then some (.astore_n 2, 1, [], .inl 0, []) else none
    else
     bif Nat.beq pc 10 then some (.getfield 9, 3, [0, 1, 2], .inl 0, []) else none
   else
    bif Nat.ble 9 pc then
     bif Nat.beq pc 9 then some (.aload_n 0, 1, [], .inl 0, []) else none
    else
     bif Nat.beq pc 8 then some (.pop, 1, [], .inl 0, []) else none
  else
   bif Nat.ble 2 pc then
    bif Nat.ble 5 pc then
     bif Nat.beq pc 5 then some (.invokestatic 118, 3, [26, 2, 1, 2, 100], .inl 0, []) else none
    else
     bif Nat.beq pc 2 then some (.getfield 48, 3, [0, 2, 0], .inl 0, []) else none
   else
    bif Nat.ble 1 pc then
     bif Nat.beq pc 1 then some (.aload_n 0, 1, [], .inl 0, []) else none
    else
     bif Nat.beq pc 0 then some (.iload_n 1, 1, [], .inl 0, []) else none
def kJx4a65c_fastRemove_b59b0 (pc : Nat) : Option Ent := bif Nat.ble 44 pc then none else
 bif Nat.ble 24 pc then
  bif Nat.ble 34 pc then
   bif Nat.ble 38 pc then
    bif Nat.ble 42 pc then
     bif Nat.ble 43 pc then
      bif Nat.beq pc 43 then some (.return_, 1, [], .inl 0, []) else none
     else
      bif Nat.beq pc 42 then some (.aastore, 1, [], .inl 0, []) else none
    else
     bif Nat.ble 41 pc then
      bif Nat.beq pc 41 then some (.aconst_null, 1, [], .inl 0, []) else none
     else
      bif Nat.beq pc 38 then some (.putfield 48, 3, [0, 2, 0], .inl 0, []) else none
   else
    bif Nat.ble 36 pc then
     bif Nat.ble 37 pc then
      bif Nat.beq pc 37 then some (.dup_x1, 1, [], .inl 0, []) else none
     else
      bif Nat.beq pc 36 then some (.iload_n 3, 1, [], .inl 0, []) else none
    else
     bif Nat.ble 35 pc then
      bif Nat.beq pc 35 then some (.aload_n 0, 1, [], .inl 0, []) else none
     else
      bif Nat.beq pc 34 then some (.aload_n 1, 1, [], .inl 0, []) else none
  else
   bif Nat.ble 28 pc then
    bif Nat.ble 30 pc then
     bif Nat.ble 31 pc then
      bif Nat.beq pc 31 then some (.invokestatic 112, 3, [9002], .inl 0, []) else none
     else
      bif Nat.beq pc 30 then some (.isub, 1, [], .inl 0, []) else none
    else
     bif Nat.ble 29 pc then
      bif Nat.beq pc 29 then some (.iload_n 2, 1, [], .inl 0, []) else none
     else
      bif Nat.beq pc 28 then some (.iload_n 3, 1, [], .inl 0, []) else none
   else
    bif Nat.ble 26 pc then
     bif Nat.ble 27 pc then
      bif Nat.beq pc 27 then some (.iload_n 2, 1, [], .inl 0, []) else none
     else
      bif Nat.beq pc 26 then some (.aload_n 1, 1, [], .inl 0, []) else none
    else
     bif Nat.ble 25 pc then
      bif Nat.beq pc 25 then some (.iadd, 1, [], .inl 0, []) else none
     else
      bif Nat.beq pc 24 then some (.iconst 1, 1, [], .inl (1), []) else none
 else
  bif Nat.ble 14 pc then
   bif Nat.ble 18 pc then
    bif Nat.ble 22 pc then
     bif Nat.ble 23 pc then
      bif Nat.beq pc 23 then some (.iload_n 2, 1, [], .inl 0, []) else none
     else
      bif Nat.beq pc 22 then some (.aload_n 1, 1, [], .inl 0, []) else none
    else
     bif Nat.ble 19 pc then
      bif Nat.beq pc 19 then some (.if_icmp .le 15, 3, [], .inl 0, []) else none
     else
      bif Nat.beq pc 18 then some (.iload_n 2, 1, [], .inl 0, []) else none
   else
    bif Nat.ble 16 pc then
     bif Nat.ble 17 pc then
      bif Nat.beq pc 17 then some (.istore_n 3, 1, [], .inl 0, []) else none
     else
      bif Nat.beq pc 16 then some (.dup, 1, [], .inl 0, []) else none
    else
     bif Nat.ble 15 pc then
      bif Nat.beq pc 15 then some (.isub, 1, [], .inl 0, []) else none
     else
      bif Nat.beq pc 14 then some (.iconst 1, 1, [], .inl (1), []) else none
  else
   bif Nat.ble 6 pc then
    bif Nat.ble 10 pc then
     bif Nat.ble 11 pc then
      bif Nat.beq pc 11 then some (.getfield 48, 3, [0, 2, 0], .inl 0, []) else none
     else
      bif Nat.beq pc 10 then some (.aload_n 0, 1, [], .inl 0, []) else none
    else
     bif Nat.ble 7 pc then
      bif Nat.beq pc 7 then some (.putfield 63, 3, [0, 0, 0], .inl 0, []) else none
     else
      bif Nat.beq pc 6 then some (.iadd, 1, [], .inl 0, []) else none
   else
    bif Nat.ble 2 pc then
     bif Nat.ble 5 pc then
      bif Nat.beq pc 5 then some (.iconst 1, 1, [], .inl (1), []) else none
     else
      bif Nat.beq pc 2 then some (.getfield 63, 3, [0, 0, 0], .inl 0, []) else none
    else
     bif Nat.ble 1 pc then
      bif Nat.beq pc 1 then some (.dup, 1, [], .inl 0, []) else none
     else
      bif Nat.beq pc 0 then some (.aload_n 0, 1, [], .inl 0, []) else none
def kJ7_fill_d0a16 (pc : Nat) : Option Ent := bif Nat.ble 23 pc then none else
 bif Nat.ble 9 pc then
  bif Nat.ble 15 pc then
   bif Nat.ble 19 pc then
    bif Nat.ble 22 pc then
     bif Nat.beq pc 22 then some (.return_, 1, [], .inl 0, []) else none
    else
     bif Nat.beq pc 19 then some (.goto (-13), 3, [], .inl 0, []) else none
   else
    bif Nat.ble 16 pc then
     bif Nat.beq pc 16 then some (.iinc 3 1, 3, [], .inl (1), []) else none
    else
     bif Nat.beq pc 15 then some (.lastore, 1, [], .inl 0, []) else none
  else
   bif Nat.ble 13 pc then
    bif Nat.ble 14 pc then
     bif Nat.beq pc 14 then some (.lload_n 1, 1, [], .inl 0, []) else none
    else
     bif Nat.beq pc 13 then some (.iload_n 3, 1, [], .inl 0, []) else none
   else
    bif Nat.ble 12 pc then
     bif Nat.beq pc 12 then some (.aload_n 0, 1, [], .inl 0, []) else none
    else
     bif Nat.beq pc 9 then some (.if_icmp .ge 13, 3, [], .inl 0, []) else none
 else
  bif Nat.ble 3 pc then
   bif Nat.ble 6 pc then
    bif Nat.ble 7 pc then
     bif Nat.beq pc 7 then some (.iload 4, 2, [], .inl 0, []) else none
    else
     bif Nat.beq pc 6 then some (.iload_n 3, 1, [], .inl 0, [2]) else none
   else
    bif Nat.ble 4 pc then
     bif Nat.beq pc 4 then some (.istore 4, 2, [], .inl 0, []) else none
    else
     bif Nat.beq pc 3 then some (.arraylength, 1, [], .inl 0, []) else none
  else
   bif Nat.ble 1 pc then
    bif Nat.ble 2 pc then
     bif Nat.beq pc 2 then some (.aload_n 0, 1, [], .inl 0, []) else none
    else
     bif Nat.beq pc 1 then some (.istore_n 3, 1, [], .inl 0, []) else none
   else
    bif Nat.beq pc 0 then some (.iconst 0, 1, [], .inl (0), []) else none
def kJ7_copyOf_1904c (pc : Nat) : Option Ent := bif Nat.ble 10 pc then none else
 bif Nat.ble 3 pc then
  bif Nat.ble 6 pc then
   bif Nat.ble 9 pc then
    bif Nat.beq pc 9 then some (.areturn, 1, [], .inl 0, []) else none
   else
    bif Nat.beq pc 6 then some (.invokestatic 300, 3, [24, 3, 3, 4, 100], .inl 0, []) else none
  else
   bif Nat.beq pc 3 then some (.invokevirtual 86, 3, [9003], .inl 0, []) else none
 else
  bif Nat.ble 1 pc then
   bif Nat.ble 2 pc then
    bif Nat.beq pc 2 then some (.aload_n 0, 1, [], .inl 0, []) else none
   else
    bif Nat.beq pc 1 then some (.iload_n 1, 1, [], .inl 0, []) else none
  else
   bif Nat.beq pc 0 then some (.aload_n 0, 1, [], .inl 0, []) else none
def kJ7_copyOf_6403c (pc : Nat) : Option Ent := bif Nat.ble 40 pc then none else
 bif Nat.ble 25 pc then
  bif Nat.ble 30 pc then
   bif Nat.ble 35 pc then
    bif Nat.ble 38 pc then
     bif Nat.ble 39 pc then
      bif Nat.beq pc 39 then some (.areturn, 1, [], .inl 0, []) else none
     else
      bif Nat.beq pc 38 then some (.aload_n 3, 1, [], .inl 0, []) else none
    else
     bif Nat.beq pc 35 then some (.invokestatic 150, 3, [9002], .inl 0, []) else none
   else
    bif Nat.ble 31 pc then
     bif Nat.ble 32 pc then
      bif Nat.beq pc 32 then some (.invokestatic 304, 3, [8, 2, 1, 2, 100], .inl 0, []) else none
     else
      bif Nat.beq pc 31 then some (.iload_n 1, 1, [], .inl 0, []) else none
    else
     bif Nat.beq pc 30 then some (.arraylength, 1, [], .inl 0, []) else none
  else
   bif Nat.ble 27 pc then
    bif Nat.ble 28 pc then
     bif Nat.ble 29 pc then
      bif Nat.beq pc 29 then some (.aload_n 0, 1, [], .inl 0, []) else none
     else
      bif Nat.beq pc 28 then some (.iconst 0, 1, [], .inl (0), []) else none
    else
     bif Nat.beq pc 27 then some (.aload_n 3, 1, [], .inl 0, []) else none
   else
    bif Nat.ble 26 pc then
     bif Nat.beq pc 26 then some (.iconst 0, 1, [], .inl (0), []) else none
    else
     bif Nat.beq pc 25 then some (.aload_n 0, 1, [], .inl 0, []) else none
 else
  bif Nat.ble 10 pc then
   bif Nat.ble 17 pc then
    bif Nat.ble 21 pc then
     bif Nat.ble 24 pc then
      bif Nat.beq pc 24 then some (.astore_n 3, 1, [], .inl 0, []) else none
     else
      bif Nat.beq pc 21 then some (.checkcast 110, 3, [23], .inl 0, []) else none
    else
     bif Nat.beq pc 17 then some (.iload_n 1, 1, [], .inl 0, []) else none
   else
    bif Nat.ble 13 pc then
     bif Nat.beq pc 13 then some (.aload_n 2, 1, [], .inl 0, []) else none
    else
     bif Nat.beq pc 10 then some (.goto 14, 3, [], .inl 0, []) else none
  else
   bif Nat.ble 3 pc then
    bif Nat.ble 6 pc then
     bif Nat.ble 7 pc then
      bif Nat.beq pc 7 then some (.anewarray 2, 3, [23], .inl 0, []) else none
     else
      bif Nat.beq pc 6 then some (.iload_n 1, 1, [], .inl 0, []) else none
    else
     bif Nat.beq pc 3 then some (.if_acmp .ne 10, 3, [], .inl 0, []) else none
   else
    bif Nat.ble 1 pc then
     bif Nat.beq pc 1 then some (.ldc 110, 2, [5], .inl 0, []) else none
    else
     bif Nat.beq pc 0 then some (.aload_n 2, 1, [], .inl 0, []) else none
def kJ7_copyOf_c38d5 (pc : Nat) : Option Ent := bif Nat.ble 33 pc then none else
 bif Nat.ble 18 pc then
  bif Nat.ble 23 pc then
   bif Nat.ble 28 pc then
    bif Nat.ble 31 pc then
     bif Nat.ble 32 pc then
      bif Nat.beq pc 32 then some (.areturn, 1, [], .inl 0, []) else none
     else
      bif Nat.beq pc 31 then some (.aload_n 2, 1, [], .inl 0, []) else none
    else
     bif Nat.beq pc 28 then some (.invokestatic 150, 3, [9001], .inl 0, []) else none
   else
    bif Nat.ble 24 pc then
     bif Nat.ble 25 pc then
      bif Nat.beq pc 25 then some (.invokestatic 304, 3, [8, 2, 1, 2, 100], .inl 0, []) else none
     else
      bif Nat.beq pc 24 then some (.iload_n 1, 1, [], .inl 0, []) else none
    else
     bif Nat.beq pc 23 then some (.arraylength, 1, [], .inl 0, []) else none
  else
   bif Nat.ble 20 pc then
    bif Nat.ble 21 pc then
     bif Nat.ble 22 pc then
      bif Nat.beq pc 22 then some (.aload_n 0, 1, [], .inl 0, []) else none
     else
      bif Nat.beq pc 21 then some (.iconst 0, 1, [], .inl (0), []) else none
    else
     bif Nat.beq pc 20 then some (.aload_n 2, 1, [], .inl 0, []) else none
   else
    bif Nat.ble 19 pc then
     bif Nat.beq pc 19 then some (.iconst 0, 1, [], .inl (0), []) else none
    else
     bif Nat.beq pc 18 then some (.aload_n 0, 1, [], .inl 0, []) else none
 else
  bif Nat.ble 7 pc then
   bif Nat.ble 14 pc then
    bif Nat.ble 15 pc then
     bif Nat.ble 17 pc then
      bif Nat.beq pc 17 then some (.astore_n 2, 1, [], .inl 0, []) else none
     else
      bif Nat.beq pc 15 then some (.newarray .long, 2, [21], .inl 0, []) else none
    else
     bif Nat.beq pc 14 then some (.iload_n 1, 1, [], .inl 0, []) else none
   else
    bif Nat.ble 10 pc then
     bif Nat.ble 13 pc then
      bif Nat.beq pc 13 then some (.areturn, 1, [], .inl 0, []) else none
     else
      bif Nat.beq pc 10 then some (.checkcast 320, 3, [21], .inl 0, []) else none
    else
     bif Nat.beq pc 7 then some (.invokevirtual 319, 3, [9004], .inl 0, []) else none
  else
   bif Nat.ble 2 pc then
    bif Nat.ble 3 pc then
     bif Nat.ble 6 pc then
      bif Nat.beq pc 6 then some (.aload_n 0, 1, [], .inl 0, []) else none
     else
      bif Nat.beq pc 3 then some (.if_icmp .ne 11, 3, [], .inl 0, []) else none
    else
     bif Nat.beq pc 2 then some (.arraylength, 1, [], .inl 0, []) else none
   else
    bif Nat.ble 1 pc then
     bif Nat.beq pc 1 then some (.aload_n 0, 1, [], .inl 0, []) else none
    else
     bif Nat.beq pc 0 then some (.iload_n 1, 1, [], .inl 0, []) else none
def kJ15_checkIndex_7cf53 (pc : Nat) : Option Ent := bif Nat.ble 7 pc then none else
 bif Nat.ble 2 pc then
  bif Nat.ble 3 pc then
   bif Nat.ble 6 pc then
    bif Nat.beq pc 6 then some (.ireturn, 1, [], .inl 0, []) else none
   else
    bif Nat.beq pc 3 then some (.invokestatic 105, 3, [29, 3, 1, 3, 100], .inl 0, []) else none
  else
   bif Nat.beq pc 2 then some (.aconst_null, 1, [], .inl 0, []) else none
 else
  bif Nat.ble 1 pc then
   bif Nat.beq pc 1 then some (.iload_n 1, 1, [], .inl 0, []) else none
  else
   bif Nat.beq pc 0 then some (.iload_n 0, 1, [], .inl 0, []) else none
def kJ8_newLength_cabcc (pc : Nat) : Option Ent := bif Nat.ble 27 pc then none else
 bif Nat.ble 13 pc then
  bif Nat.ble 20 pc then
   bif Nat.ble 22 pc then
    bif Nat.ble 23 pc then
     bif Nat.ble 26 pc then
      bif Nat.beq pc 26 then some (.ireturn, 1, [], .inl 0, []) else none
     else
      bif Nat.beq pc 23 then some (.invokestatic 201, 3, [28, 2, 1, 3, 100], .inl 0, []) else none
    else
     bif Nat.beq pc 22 then some (.iload_n 1, 1, [], .inl 0, []) else none
   else
    bif Nat.ble 21 pc then
     bif Nat.beq pc 21 then some (.iload_n 0, 1, [], .inl 0, []) else none
    else
     bif Nat.beq pc 20 then some (.ireturn, 1, [], .inl 0, []) else none
  else
   bif Nat.ble 16 pc then
    bif Nat.ble 19 pc then
     bif Nat.beq pc 19 then some (.iload_n 3, 1, [], .inl 0, []) else none
    else
     bif Nat.beq pc 16 then some (.if_icmp .gt 5, 3, [], .inl 0, []) else none
   else
    bif Nat.ble 14 pc then
     bif Nat.beq pc 14 then some (.ldc 200, 2, [], .inl (2147483639), []) else none
    else
     bif Nat.beq pc 13 then some (.iload_n 3, 1, [], .inl 0, []) else none
 else
  bif Nat.ble 6 pc then
   bif Nat.ble 8 pc then
    bif Nat.ble 9 pc then
     bif Nat.ble 10 pc then
      bif Nat.beq pc 10 then some (.if_icmp .ge 11, 3, [], .inl 0, []) else none
     else
      bif Nat.beq pc 9 then some (.iload_n 3, 1, [], .inl 0, []) else none
    else
     bif Nat.beq pc 8 then some (.iconst 0, 1, [], .inl (0), []) else none
   else
    bif Nat.ble 7 pc then
     bif Nat.beq pc 7 then some (.istore_n 3, 1, [], .inl 0, []) else none
    else
     bif Nat.beq pc 6 then some (.iadd, 1, [], .inl 0, []) else none
  else
   bif Nat.ble 2 pc then
    bif Nat.ble 3 pc then
     bif Nat.beq pc 3 then some (.invokestatic 194, 3, [7, 2, 1, 2, 100], .inl 0, []) else none
    else
     bif Nat.beq pc 2 then some (.iload_n 2, 1, [], .inl 0, []) else none
   else
    bif Nat.ble 1 pc then
     bif Nat.beq pc 1 then some (.iload_n 1, 1, [], .inl 0, []) else none
    else
     bif Nat.beq pc 0 then some (.iload_n 0, 1, [], .inl 0, []) else none
def kJ8_hugeLength_7cf53 (pc : Nat) : Option Ent := bif Nat.ble 60 pc then none else
 bif Nat.ble 33 pc then
  bif Nat.ble 52 pc then
   bif Nat.ble 57 pc then
    bif Nat.ble 58 pc then
     bif Nat.ble 59 pc then
      bif Nat.beq pc 59 then some (.ireturn, 1, [], .inl 0, []) else none
     else
      bif Nat.beq pc 58 then some (.iload_n 2, 1, [], .inl 0, []) else none
    else
     bif Nat.beq pc 57 then some (.ireturn, 1, [], .inl 0, []) else none
   else
    bif Nat.ble 55 pc then
     bif Nat.beq pc 55 then some (.ldc 200, 2, [], .inl (2147483639), []) else none
    else
     bif Nat.beq pc 52 then some (.if_icmp .gt 6, 3, [], .inl 0, []) else none
  else
   bif Nat.ble 49 pc then
    bif Nat.ble 50 pc then
     bif Nat.beq pc 50 then some (.ldc 200, 2, [], .inl (2147483639), []) else none
    else
     bif Nat.beq pc 49 then some (.iload_n 2, 1, [], .inl 0, []) else none
   else
    bif Nat.ble 48 pc then
     bif Nat.beq pc 48 then some (.athrow, 1, [], .inl 0, []) else none
    else
     bif Nat.beq pc 33 then some (.iload_n 1, 1, [], .inl 0, []) else none
 else
  bif Nat.ble 4 pc then
   bif Nat.ble 11 pc then
    bif Nat.ble 15 pc then
     bif Nat.ble 24 pc then
      bif Nat.beq pc 24 then some (.iload_n 0, 1, [], .inl 0, []) else none
     else
      bif Nat.beq pc 15 then some (.dup, 1, [], .inl 0, []) else none
    else
     bif Nat.beq pc 11 then some (.dup, 1, [], .inl 0, []) else none
   else
    bif Nat.ble 5 pc then
     bif Nat.beq pc 5 then some (.ifCond .ge 44, 3, [], .inl 0, []) else none
    else
     bif Nat.beq pc 4 then some (.iload_n 2, 1, [], .inl 0, []) else none
  else
   bif Nat.ble 2 pc then
    bif Nat.ble 3 pc then
     bif Nat.beq pc 3 then some (.istore_n 2, 1, [], .inl 0, []) else none
    else
     bif Nat.beq pc 2 then some (.iadd, 1, [], .inl 0, []) else none
   else
    bif Nat.ble 1 pc then
     bif Nat.beq pc 1 then some (.iload_n 1, 1, [], .inl 0, []) else none
    else
     bif Nat.beq pc 0 then some (.iload_n 0, 1, [], .inl 0, []) else none
def kJ3_checkIndex_8e157 (pc : Nat) : Option Ent := bif Nat.ble 18 pc then none else
 bif Nat.ble 9 pc then
  bif Nat.ble 15 pc then
   bif Nat.ble 16 pc then
    bif Nat.ble 17 pc then
     bif Nat.beq pc 17 then some (.ireturn, 1, [], .inl 0, []) else none
    else
     bif Nat.beq pc 16 then some (.iload_n 0, 1, [], .inl 0, []) else none
   else
    bif Nat.beq pc 15 then some (.athrow, 1, [], .inl 0, []) else none
  else
   bif Nat.ble 10 pc then
    bif Nat.ble 11 pc then
     bif Nat.beq pc 11 then some (.iload_n 1, 1, [], .inl 0, []) else none
    else
     bif Nat.beq pc 10 then some (.iload_n 0, 1, [], .inl 0, []) else none
   else
    bif Nat.beq pc 9 then some (.aload_n 2, 1, [], .inl 0, []) else none
 else
  bif Nat.ble 4 pc then
   bif Nat.ble 5 pc then
    bif Nat.ble 6 pc then
     bif Nat.beq pc 6 then some (.if_icmp .lt 10, 3, [], .inl 0, []) else none
    else
     bif Nat.beq pc 5 then some (.iload_n 1, 1, [], .inl 0, []) else none
   else
    bif Nat.beq pc 4 then some (.iload_n 0, 1, [], .inl 0, []) else none
  else
   bif Nat.ble 1 pc then
    bif Nat.beq pc 1 then some (.ifCond .lt 8, 3, [], .inl 0, []) else none
   else
    bif Nat.beq pc 0 then some (.iload_n 0, 1, [], .inl 0, []) else none
def kX0_isName (pc : Nat) : Option Ent := bif Nat.ble 73 pc then none else
 bif Nat.ble 32 pc then
  bif Nat.ble 54 pc then
   bif Nat.ble 63 pc then
    bif Nat.ble 68 pc then
     bif Nat.ble 71 pc then
      bif Nat.ble 72 pc then
       bif Nat.beq pc 72 then some (.ireturn, 1, [1], .inl 0, [0, 1, 2, 3, 4, 5]) else none
      else
       bif Nat.beq pc 71 then some (.iconst 0, 1, [], .inl (0), []) else none
     else
      bif Nat.beq pc 68 then some (.goto 4, 3, [], .inl 0, []) else none
    else
     bif Nat.ble 64 pc then
      bif Nat.ble 67 pc then
       bif Nat.beq pc 67 then some (.iconst 1, 1, [], .inl (1), []) else none
      else
       bif Nat.beq pc 64 then some (.ifCond .eq 7, 3, [], .inl 0, []) else none
     else
      bif Nat.beq pc 63 then some (.lcmp, 1, [], .inl 0, []) else none
   else
    bif Nat.ble 58 pc then
     bif Nat.ble 61 pc then
      bif Nat.ble 62 pc then
       bif Nat.beq pc 62 then some (.lconst 0, 1, [], .inr (.inl (0)), []) else none
      else
       bif Nat.beq pc 61 then some (.lload_n 0, 1, [], .inl 0, []) else none
     else
      bif Nat.beq pc 58 then some (.goto (-54), 3, [], .inl 0, []) else none
    else
     bif Nat.ble 55 pc then
      bif Nat.beq pc 55 then some (.iinc 3 8, 3, [], .inl (8), [1, 4, 5]) else none
     else
      bif Nat.beq pc 54 then some (.ireturn, 1, [1], .inl 0, []) else none
  else
   bif Nat.ble 44 pc then
    bif Nat.ble 49 pc then
     bif Nat.ble 50 pc then
      bif Nat.ble 53 pc then
       bif Nat.beq pc 53 then some (.iconst 0, 1, [], .inl (0), [0, 1, 2, 3, 4, 5]) else none
      else
       bif Nat.beq pc 50 then some (.ifCond .le 5, 3, [], .inl 0, []) else none
     else
      bif Nat.beq pc 49 then some (.lcmp, 1, [], .inl 0, []) else none
    else
     bif Nat.ble 46 pc then
      bif Nat.beq pc 46 then some (.ldc2_w 13, 3, [], .inr (.inl (122)), []) else none
     else
      bif Nat.beq pc 44 then some (.lload 4, 2, [], .inl 0, []) else none
   else
    bif Nat.ble 37 pc then
     bif Nat.ble 40 pc then
      bif Nat.ble 41 pc then
       bif Nat.beq pc 41 then some (.ifCond .lt 12, 3, [], .inl 0, []) else none
      else
       bif Nat.beq pc 40 then some (.lcmp, 1, [], .inl 0, []) else none
     else
      bif Nat.beq pc 37 then some (.ldc2_w 11, 3, [], .inr (.inl (97)), []) else none
    else
     bif Nat.ble 35 pc then
      bif Nat.beq pc 35 then some (.lload 4, 2, [], .inl 0, []) else none
     else
      bif Nat.beq pc 32 then some (.ifCond .ne 21, 3, [], .inl 0, []) else none
 else
  bif Nat.ble 13 pc then
   bif Nat.ble 22 pc then
    bif Nat.ble 27 pc then
     bif Nat.ble 28 pc then
      bif Nat.ble 31 pc then
       bif Nat.beq pc 31 then some (.iload_n 2, 1, [], .inl 0, []) else none
      else
       bif Nat.beq pc 28 then some (.goto 27, 3, [], .inl 0, []) else none
     else
      bif Nat.beq pc 27 then some (.istore_n 2, 1, [], .inl 0, []) else none
    else
     bif Nat.ble 23 pc then
      bif Nat.ble 26 pc then
       bif Nat.beq pc 26 then some (.iconst 1, 1, [], .inl (1), []) else none
      else
       bif Nat.beq pc 23 then some (.ifCond .ne 8, 3, [], .inl 0, []) else none
     else
      bif Nat.beq pc 22 then some (.lcmp, 1, [], .inl 0, []) else none
   else
    bif Nat.ble 17 pc then
     bif Nat.ble 19 pc then
      bif Nat.ble 21 pc then
       bif Nat.beq pc 21 then some (.lconst 0, 1, [], .inr (.inl (0)), []) else none
      else
       bif Nat.beq pc 19 then some (.lload 4, 2, [], .inl 0, []) else none
     else
      bif Nat.beq pc 17 then some (.lstore 4, 2, [], .inl 0, []) else none
    else
     bif Nat.ble 16 pc then
      bif Nat.beq pc 16 then some (.land, 1, [], .inl 0, []) else none
     else
      bif Nat.beq pc 13 then some (.ldc2_w 9, 3, [], .inr (.inl (255)), []) else none
  else
   bif Nat.ble 5 pc then
    bif Nat.ble 10 pc then
     bif Nat.ble 11 pc then
      bif Nat.ble 12 pc then
       bif Nat.beq pc 12 then some (.lushr, 1, [], .inl 0, []) else none
      else
       bif Nat.beq pc 11 then some (.iload_n 3, 1, [], .inl 0, []) else none
     else
      bif Nat.beq pc 10 then some (.lload_n 0, 1, [], .inl 0, []) else none
    else
     bif Nat.ble 7 pc then
      bif Nat.beq pc 7 then some (.if_icmp .ge 54, 3, [], .inl 0, []) else none
     else
      bif Nat.beq pc 5 then some (.bipush 64, 2, [], .inl (64), []) else none
   else
    bif Nat.ble 2 pc then
     bif Nat.ble 3 pc then
      bif Nat.ble 4 pc then
       bif Nat.beq pc 4 then some (.iload_n 3, 1, [], .inl 0, [1, 4, 5]) else none
      else
       bif Nat.beq pc 3 then some (.istore_n 3, 1, [], .inl 0, []) else none
     else
      bif Nat.beq pc 2 then some (.iconst 0, 1, [], .inl (0), []) else none
    else
     bif Nat.ble 1 pc then
      bif Nat.beq pc 1 then some (.istore_n 2, 1, [], .inl 0, []) else none
     else
      bif Nat.beq pc 0 then some (.iconst 0, 1, [], .inl (0), []) else none
def kX0_shaped (pc : Nat) : Option Ent := bif Nat.ble 116 pc then none else
 bif Nat.ble 75 pc then
  bif Nat.ble 95 pc then
   bif Nat.ble 103 pc then
    bif Nat.ble 110 pc then
     bif Nat.ble 114 pc then
      bif Nat.ble 115 pc then
       bif Nat.beq pc 115 then some (.lreturn, 1, [], .inl 0, []) else none
      else
       bif Nat.beq pc 114 then some (.lload_n 1, 1, [], .inl 0, []) else none
     else
      bif Nat.ble 113 pc then
       bif Nat.beq pc 113 then some (.lreturn, 1, [], .inl 0, []) else none
      else
       bif Nat.beq pc 110 then some (.ldc2_w 27, 3, [], .inr (.inl (9221120237041090560)), []) else none
    else
     bif Nat.ble 106 pc then
      bif Nat.ble 107 pc then
       bif Nat.beq pc 107 then some (.goto 6, 3, [], .inl 0, []) else none
      else
       bif Nat.beq pc 106 then some (.lload_n 1, 1, [], .inl 0, []) else none
     else
      bif Nat.beq pc 103 then some (.ifCond .eq 7, 3, [], .inl 0, []) else none
   else
    bif Nat.ble 98 pc then
     bif Nat.ble 99 pc then
      bif Nat.ble 100 pc then
       bif Nat.beq pc 100 then some (.invokestatic 23, 3, [32, 1, 1, 2, 100], .inl 0, []) else none
      else
       bif Nat.beq pc 99 then some (.lload_n 1, 1, [], .inl 0, []) else none
     else
      bif Nat.beq pc 98 then some (.lreturn, 1, [], .inl 0, []) else none
    else
     bif Nat.ble 96 pc then
      bif Nat.ble 97 pc then
       bif Nat.beq pc 97 then some (.i2l, 1, [], .inl 0, []) else none
      else
       bif Nat.beq pc 96 then some (.l2i, 1, [], .inl 0, []) else none
     else
      bif Nat.beq pc 95 then some (.lload_n 1, 1, [], .inl 0, []) else none
  else
   bif Nat.ble 81 pc then
    bif Nat.ble 86 pc then
     bif Nat.ble 89 pc then
      bif Nat.ble 92 pc then
       bif Nat.beq pc 92 then some (.goto 6, 3, [], .inl 0, []) else none
      else
       bif Nat.beq pc 89 then some (.ldc2_w 21, 3, [], .inr (.inl (2143289344)), []) else none
     else
      bif Nat.beq pc 86 then some (.if_icmp .le 9, 3, [], .inl 0, []) else none
    else
     bif Nat.ble 83 pc then
      bif Nat.ble 84 pc then
       bif Nat.beq pc 84 then some (.ldc 20, 2, [], .inl (2139095040), []) else none
      else
       bif Nat.beq pc 83 then some (.iand, 1, [], .inl 0, []) else none
     else
      bif Nat.beq pc 81 then some (.ldc 17, 2, [], .inl (2147483647), []) else none
   else
    bif Nat.ble 78 pc then
     bif Nat.ble 79 pc then
      bif Nat.ble 80 pc then
       bif Nat.beq pc 80 then some (.l2i, 1, [], .inl 0, []) else none
      else
       bif Nat.beq pc 79 then some (.lload_n 1, 1, [], .inl 0, []) else none
     else
      bif Nat.beq pc 78 then some (.lreturn, 1, [], .inl 0, []) else none
    else
     bif Nat.ble 76 pc then
      bif Nat.ble 77 pc then
       bif Nat.beq pc 77 then some (.i2l, 1, [], .inl 0, []) else none
      else
       bif Nat.beq pc 76 then some (.l2i, 1, [], .inl 0, []) else none
     else
      bif Nat.beq pc 75 then some (.lload_n 1, 1, [], .inl 0, []) else none
 else
  bif Nat.ble 62 pc then
   bif Nat.ble 68 pc then
    bif Nat.ble 71 pc then
     bif Nat.ble 73 pc then
      bif Nat.ble 74 pc then
       bif Nat.beq pc 74 then some (.lreturn, 1, [], .inl 0, []) else none
      else
       bif Nat.beq pc 73 then some (.i2l, 1, [], .inl 0, []) else none
     else
      bif Nat.ble 72 pc then
       bif Nat.beq pc 72 then some (.i2c, 1, [], .inl 0, []) else none
      else
       bif Nat.beq pc 71 then some (.l2i, 1, [], .inl 0, []) else none
    else
     bif Nat.ble 69 pc then
      bif Nat.ble 70 pc then
       bif Nat.beq pc 70 then some (.lload_n 1, 1, [], .inl 0, []) else none
      else
       bif Nat.beq pc 69 then some (.lreturn, 1, [], .inl 0, []) else none
     else
      bif Nat.beq pc 68 then some (.i2l, 1, [], .inl 0, []) else none
   else
    bif Nat.ble 65 pc then
     bif Nat.ble 66 pc then
      bif Nat.ble 67 pc then
       bif Nat.beq pc 67 then some (.i2s, 1, [], .inl 0, []) else none
      else
       bif Nat.beq pc 66 then some (.l2i, 1, [], .inl 0, []) else none
     else
      bif Nat.beq pc 65 then some (.lload_n 1, 1, [], .inl 0, []) else none
    else
     bif Nat.ble 63 pc then
      bif Nat.ble 64 pc then
       bif Nat.beq pc 64 then some (.lreturn, 1, [], .inl 0, []) else none
      else
       bif Nat.beq pc 63 then some (.i2l, 1, [], .inl 0, []) else none
     else
      bif Nat.beq pc 62 then some (.i2b, 1, [], .inl 0, []) else none
  else
   bif Nat.ble 54 pc then
    bif Nat.ble 59 pc then
     bif Nat.ble 60 pc then
      bif Nat.ble 61 pc then
       bif Nat.beq pc 61 then some (.l2i, 1, [], .inl 0, []) else none
      else
       bif Nat.beq pc 60 then some (.lload_n 1, 1, [], .inl 0, []) else none
     else
      bif Nat.beq pc 59 then some (.lreturn, 1, [], .inl 0, []) else none
    else
     bif Nat.ble 55 pc then
      bif Nat.ble 58 pc then
       bif Nat.beq pc 58 then some (.lconst 0, 1, [], .inr (.inl (0)), []) else none
      else
       bif Nat.beq pc 55 then some (.goto 4, 3, [], .inl 0, []) else none
     else
      bif Nat.beq pc 54 then some (.lconst 1, 1, [], .inr (.inl (1)), []) else none
   else
    bif Nat.ble 49 pc then
     bif Nat.ble 50 pc then
      bif Nat.ble 51 pc then
       bif Nat.beq pc 51 then some (.ifCond .eq 7, 3, [], .inl 0, []) else none
      else
       bif Nat.beq pc 50 then some (.lcmp, 1, [], .inl 0, []) else none
     else
      bif Nat.beq pc 49 then some (.lconst 0, 1, [], .inr (.inl (0)), []) else none
    else
     bif Nat.ble 1 pc then
      bif Nat.ble 48 pc then
       bif Nat.beq pc 48 then some (.lload_n 1, 1, [], .inl 0, []) else none
      else
       bif Nat.beq pc 1 then some (.tableswitch 113 0 7 #[47, 59, 64, 69, 74, 113, 78, 98], 47, [], .inl 0, []) else none
     else
      bif Nat.beq pc 0 then some (.iload_n 0, 1, [], .inl 0, []) else none
def kX0_isNumber (pc : Nat) : Option Ent := bif Nat.ble 18 pc then none else
 bif Nat.ble 9 pc then
  bif Nat.ble 13 pc then
   bif Nat.ble 16 pc then
    bif Nat.ble 17 pc then
     bif Nat.beq pc 17 then some (.ireturn, 1, [1], .inl 0, []) else none
    else
     bif Nat.beq pc 16 then some (.iconst 0, 1, [], .inl (0), []) else none
   else
    bif Nat.beq pc 13 then some (.goto 4, 3, [], .inl 0, []) else none
  else
   bif Nat.ble 12 pc then
    bif Nat.beq pc 12 then some (.iconst 1, 1, [], .inl (1), []) else none
   else
    bif Nat.beq pc 9 then some (.ifCond .gt 7, 3, [], .inl 0, []) else none
 else
  bif Nat.ble 4 pc then
   bif Nat.ble 5 pc then
    bif Nat.ble 8 pc then
     bif Nat.beq pc 8 then some (.lcmp, 1, [], .inl 0, []) else none
    else
     bif Nat.beq pc 5 then some (.ldc2_w 33, 3, [], .inr (.inl (9218868437227405312)), []) else none
   else
    bif Nat.beq pc 4 then some (.land, 1, [], .inl 0, []) else none
  else
   bif Nat.ble 1 pc then
    bif Nat.beq pc 1 then some (.ldc2_w 31, 3, [], .inr (.inl (9223372036854775807)), []) else none
   else
    bif Nat.beq pc 0 then some (.lload_n 0, 1, [], .inl 0, []) else none
def kX0_widened (pc : Nat) : Option Ent := bif Nat.ble 45 pc then none else
 bif Nat.ble 21 pc then
  bif Nat.ble 32 pc then
   bif Nat.ble 39 pc then
    bif Nat.ble 43 pc then
     bif Nat.ble 44 pc then
      bif Nat.beq pc 44 then some (.lreturn, 1, [], .inl 0, []) else none
     else
      bif Nat.beq pc 43 then some (.lload_n 2, 1, [], .inl 0, []) else none
    else
     bif Nat.ble 42 pc then
      bif Nat.beq pc 42 then some (.lreturn, 1, [], .inl 0, []) else none
     else
      bif Nat.beq pc 39 then some (.invokestatic 43, 3, [37, 1, 2, 4, 100], .inl 0, []) else none
   else
    bif Nat.ble 35 pc then
     bif Nat.ble 38 pc then
      bif Nat.beq pc 38 then some (.lload_n 2, 1, [], .inl 0, []) else none
     else
      bif Nat.beq pc 35 then some (.goto 7, 3, [], .inl 0, []) else none
    else
     bif Nat.beq pc 32 then some (.invokestatic 39, 3, [40, 1, 2, 9, 100], .inl 0, []) else none
  else
   bif Nat.ble 27 pc then
    bif Nat.ble 30 pc then
     bif Nat.ble 31 pc then
      bif Nat.beq pc 31 then some (.l2i, 1, [], .inl 0, []) else none
     else
      bif Nat.beq pc 30 then some (.lload_n 2, 1, [], .inl 0, []) else none
    else
     bif Nat.beq pc 27 then some (.if_icmp .ne 11, 3, [], .inl 0, []) else none
   else
    bif Nat.ble 24 pc then
     bif Nat.ble 25 pc then
      bif Nat.beq pc 25 then some (.bipush 6, 2, [], .inl (6), []) else none
     else
      bif Nat.beq pc 24 then some (.iload_n 0, 1, [], .inl 0, []) else none
    else
     bif Nat.beq pc 21 then some (.if_icmp .ne 22, 3, [], .inl 0, []) else none
 else
  bif Nat.ble 8 pc then
   bif Nat.ble 14 pc then
    bif Nat.ble 18 pc then
     bif Nat.ble 19 pc then
      bif Nat.beq pc 19 then some (.bipush 7, 2, [], .inl (7), []) else none
     else
      bif Nat.beq pc 18 then some (.iload_n 1, 1, [], .inl 0, []) else none
    else
     bif Nat.ble 17 pc then
      bif Nat.beq pc 17 then some (.lreturn, 1, [], .inl 0, []) else none
     else
      bif Nat.beq pc 14 then some (.invokestatic 35, 3, [36, 1, 2, 3, 100], .inl 0, []) else none
   else
    bif Nat.ble 10 pc then
     bif Nat.ble 13 pc then
      bif Nat.beq pc 13 then some (.lload_n 2, 1, [], .inl 0, []) else none
     else
      bif Nat.beq pc 10 then some (.if_icmp .ne 8, 3, [], .inl 0, []) else none
    else
     bif Nat.beq pc 8 then some (.bipush 6, 2, [], .inl (6), []) else none
  else
   bif Nat.ble 5 pc then
    bif Nat.ble 6 pc then
     bif Nat.ble 7 pc then
      bif Nat.beq pc 7 then some (.iload_n 1, 1, [], .inl 0, []) else none
     else
      bif Nat.beq pc 6 then some (.lreturn, 1, [], .inl 0, []) else none
    else
     bif Nat.beq pc 5 then some (.lload_n 2, 1, [], .inl 0, []) else none
   else
    bif Nat.ble 1 pc then
     bif Nat.ble 2 pc then
      bif Nat.beq pc 2 then some (.if_icmp .ne 5, 3, [], .inl 0, []) else none
     else
      bif Nat.beq pc 1 then some (.iload_n 1, 1, [], .inl 0, []) else none
    else
     bif Nat.beq pc 0 then some (.iload_n 0, 1, [], .inl 0, []) else none
def kX0_isBetween (pc : Nat) : Option Ent := bif Nat.ble 97 pc then none else
 bif Nat.ble 45 pc then
  bif Nat.ble 70 pc then
   bif Nat.ble 84 pc then
    bif Nat.ble 91 pc then
     bif Nat.ble 95 pc then
      bif Nat.ble 96 pc then
       bif Nat.beq pc 96 then some (.ireturn, 1, [1], .inl 0, []) else none
      else
       bif Nat.beq pc 95 then some (.iconst 0, 1, [], .inl (0), []) else none
     else
      bif Nat.ble 92 pc then
       bif Nat.beq pc 92 then some (.goto 4, 3, [], .inl 0, []) else none
      else
       bif Nat.beq pc 91 then some (.iconst 1, 1, [], .inl (1), []) else none
    else
     bif Nat.ble 87 pc then
      bif Nat.ble 88 pc then
       bif Nat.beq pc 88 then some (.ifCond .gt 7, 3, [], .inl 0, []) else none
      else
       bif Nat.beq pc 87 then some (.lcmp, 1, [], .inl 0, []) else none
     else
      bif Nat.beq pc 84 then some (.invokestatic 46, 3, [35, 1, 2, 2, 100], .inl 0, []) else none
   else
    bif Nat.ble 76 pc then
     bif Nat.ble 79 pc then
      bif Nat.ble 81 pc then
       bif Nat.beq pc 81 then some (.invokestatic 43, 3, [37, 1, 2, 4, 100], .inl 0, []) else none
      else
       bif Nat.beq pc 79 then some (.lload 5, 2, [], .inl 0, []) else none
     else
      bif Nat.beq pc 76 then some (.invokestatic 46, 3, [35, 1, 2, 2, 100], .inl 0, []) else none
    else
     bif Nat.ble 71 pc then
      bif Nat.ble 74 pc then
       bif Nat.beq pc 74 then some (.lload 7, 2, [], .inl 0, []) else none
      else
       bif Nat.beq pc 71 then some (.ifCond .lt 24, 3, [], .inl 0, []) else none
     else
      bif Nat.beq pc 70 then some (.lcmp, 1, [], .inl 0, []) else none
  else
   bif Nat.ble 57 pc then
    bif Nat.ble 63 pc then
     bif Nat.ble 64 pc then
      bif Nat.ble 67 pc then
       bif Nat.beq pc 67 then some (.invokestatic 46, 3, [35, 1, 2, 2, 100], .inl 0, []) else none
      else
       bif Nat.beq pc 64 then some (.invokestatic 43, 3, [37, 1, 2, 4, 100], .inl 0, []) else none
     else
      bif Nat.beq pc 63 then some (.lload_n 3, 1, [], .inl 0, []) else none
    else
     bif Nat.ble 58 pc then
      bif Nat.ble 60 pc then
       bif Nat.beq pc 60 then some (.invokestatic 46, 3, [35, 1, 2, 2, 100], .inl 0, []) else none
      else
       bif Nat.beq pc 58 then some (.lload 7, 2, [], .inl 0, []) else none
     else
      bif Nat.beq pc 57 then some (.ireturn, 1, [1], .inl 0, []) else none
   else
    bif Nat.ble 50 pc then
     bif Nat.ble 53 pc then
      bif Nat.ble 56 pc then
       bif Nat.beq pc 56 then some (.iconst 0, 1, [], .inl (0), []) else none
      else
       bif Nat.beq pc 53 then some (.ifCond .ne 5, 3, [], .inl 0, []) else none
     else
      bif Nat.beq pc 50 then some (.invokestatic 23, 3, [32, 1, 1, 2, 100], .inl 0, []) else none
    else
     bif Nat.ble 46 pc then
      bif Nat.ble 48 pc then
       bif Nat.beq pc 48 then some (.lload 7, 2, [], .inl 0, []) else none
      else
       bif Nat.beq pc 46 then some (.lstore 7, 2, [], .inl 0, []) else none
     else
      bif Nat.beq pc 45 then some (.lload_n 1, 1, [], .inl 0, []) else none
 else
  bif Nat.ble 21 pc then
   bif Nat.ble 31 pc then
    bif Nat.ble 37 pc then
     bif Nat.ble 39 pc then
      bif Nat.ble 42 pc then
       bif Nat.beq pc 42 then some (.goto 4, 3, [], .inl 0, []) else none
      else
       bif Nat.beq pc 39 then some (.invokestatic 39, 3, [40, 1, 2, 9, 100], .inl 0, []) else none
     else
      bif Nat.ble 38 pc then
       bif Nat.beq pc 38 then some (.l2i, 1, [], .inl 0, []) else none
      else
       bif Nat.beq pc 37 then some (.lload_n 1, 1, [], .inl 0, []) else none
    else
     bif Nat.ble 32 pc then
      bif Nat.ble 34 pc then
       bif Nat.beq pc 34 then some (.if_icmp .ne 11, 3, [], .inl 0, []) else none
      else
       bif Nat.beq pc 32 then some (.bipush 6, 2, [], .inl (6), []) else none
     else
      bif Nat.beq pc 31 then some (.iload_n 0, 1, [], .inl 0, []) else none
   else
    bif Nat.ble 26 pc then
     bif Nat.ble 29 pc then
      bif Nat.ble 30 pc then
       bif Nat.beq pc 30 then some (.ireturn, 1, [1], .inl 0, []) else none
      else
       bif Nat.beq pc 29 then some (.iconst 0, 1, [], .inl (0), []) else none
     else
      bif Nat.beq pc 26 then some (.goto 4, 3, [], .inl 0, []) else none
    else
     bif Nat.ble 22 pc then
      bif Nat.ble 25 pc then
       bif Nat.beq pc 25 then some (.iconst 1, 1, [], .inl (1), []) else none
      else
       bif Nat.beq pc 22 then some (.ifCond .gt 7, 3, [], .inl 0, []) else none
     else
      bif Nat.beq pc 21 then some (.lcmp, 1, [], .inl 0, []) else none
  else
   bif Nat.ble 12 pc then
    bif Nat.ble 15 pc then
     bif Nat.ble 18 pc then
      bif Nat.ble 19 pc then
       bif Nat.beq pc 19 then some (.lload 5, 2, [], .inl 0, []) else none
      else
       bif Nat.beq pc 18 then some (.lload_n 1, 1, [], .inl 0, []) else none
     else
      bif Nat.beq pc 15 then some (.ifCond .lt 14, 3, [], .inl 0, []) else none
    else
     bif Nat.ble 13 pc then
      bif Nat.ble 14 pc then
       bif Nat.beq pc 14 then some (.lcmp, 1, [], .inl 0, []) else none
      else
       bif Nat.beq pc 13 then some (.lload_n 3, 1, [], .inl 0, []) else none
     else
      bif Nat.beq pc 12 then some (.lload_n 1, 1, [], .inl 0, []) else none
   else
    bif Nat.ble 6 pc then
     bif Nat.ble 7 pc then
      bif Nat.ble 9 pc then
       bif Nat.beq pc 9 then some (.if_icmp .eq 22, 3, [], .inl 0, []) else none
      else
       bif Nat.beq pc 7 then some (.bipush 7, 2, [], .inl (7), []) else none
     else
      bif Nat.beq pc 6 then some (.iload_n 0, 1, [], .inl 0, []) else none
    else
     bif Nat.ble 1 pc then
      bif Nat.ble 3 pc then
       bif Nat.beq pc 3 then some (.if_icmp .eq 28, 3, [], .inl 0, []) else none
      else
       bif Nat.beq pc 1 then some (.bipush 6, 2, [], .inl (6), []) else none
     else
      bif Nat.beq pc 0 then some (.iload_n 0, 1, [], .inl 0, []) else none
def kX0_place (pc : Nat) : Option Ent := bif Nat.ble 17 pc then none else
 bif Nat.ble 7 pc then
  bif Nat.ble 14 pc then
   bif Nat.ble 15 pc then
    bif Nat.ble 16 pc then
     bif Nat.beq pc 16 then some (.lreturn, 1, [], .inl 0, []) else none
    else
     bif Nat.beq pc 15 then some (.lneg, 1, [], .inl 0, []) else none
   else
    bif Nat.beq pc 14 then some (.land, 1, [], .inl 0, []) else none
  else
   bif Nat.ble 10 pc then
    bif Nat.ble 11 pc then
     bif Nat.beq pc 11 then some (.ldc2_w 31, 3, [], .inr (.inl (9223372036854775807)), []) else none
    else
     bif Nat.beq pc 10 then some (.lload_n 0, 1, [], .inl 0, []) else none
   else
    bif Nat.beq pc 7 then some (.goto 9, 3, [], .inl 0, []) else none
 else
  bif Nat.ble 2 pc then
   bif Nat.ble 3 pc then
    bif Nat.ble 6 pc then
     bif Nat.beq pc 6 then some (.lload_n 0, 1, [], .inl 0, []) else none
    else
     bif Nat.beq pc 3 then some (.ifCond .lt 7, 3, [], .inl 0, []) else none
   else
    bif Nat.beq pc 2 then some (.lcmp, 1, [], .inl 0, []) else none
  else
   bif Nat.ble 1 pc then
    bif Nat.beq pc 1 then some (.lconst 0, 1, [], .inr (.inl (0)), []) else none
   else
    bif Nat.beq pc 0 then some (.lload_n 0, 1, [], .inl 0, []) else none
def kX0_floatOfWhole (pc : Nat) : Option Ent := bif Nat.ble 27 pc then none else
 bif Nat.ble 13 pc then
  bif Nat.ble 20 pc then
   bif Nat.ble 24 pc then
    bif Nat.ble 25 pc then
     bif Nat.ble 26 pc then
      bif Nat.beq pc 26 then some (.lreturn, 1, [], .inl 0, []) else none
     else
      bif Nat.beq pc 25 then some (.i2l, 1, [], .inl 0, []) else none
    else
     bif Nat.beq pc 24 then some (.iload_n 2, 1, [], .inl 0, []) else none
   else
    bif Nat.ble 21 pc then
     bif Nat.beq pc 21 then some (.goto 5, 3, [], .inl 0, []) else none
    else
     bif Nat.beq pc 20 then some (.i2l, 1, [], .inl 0, []) else none
  else
   bif Nat.ble 17 pc then
    bif Nat.ble 19 pc then
     bif Nat.beq pc 19 then some (.ior, 1, [], .inl 0, []) else none
    else
     bif Nat.beq pc 17 then some (.ldc 53, 2, [], .inl (-2147483648), []) else none
   else
    bif Nat.ble 16 pc then
     bif Nat.beq pc 16 then some (.iload_n 2, 1, [], .inl 0, []) else none
    else
     bif Nat.beq pc 13 then some (.ifCond .ge 11, 3, [], .inl 0, []) else none
 else
  bif Nat.ble 8 pc then
   bif Nat.ble 10 pc then
    bif Nat.ble 11 pc then
     bif Nat.ble 12 pc then
      bif Nat.beq pc 12 then some (.lcmp, 1, [], .inl 0, []) else none
     else
      bif Nat.beq pc 11 then some (.lconst 0, 1, [], .inr (.inl (0)), []) else none
    else
     bif Nat.beq pc 10 then some (.lload_n 0, 1, [], .inl 0, []) else none
   else
    bif Nat.ble 9 pc then
     bif Nat.beq pc 9 then some (.istore_n 2, 1, [], .inl 0, []) else none
    else
     bif Nat.beq pc 8 then some (.l2i, 1, [], .inl 0, []) else none
  else
   bif Nat.ble 3 pc then
    bif Nat.ble 5 pc then
     bif Nat.beq pc 5 then some (.invokestatic 49, 3, [38, 3, 2, 9, 100], .inl 0, []) else none
    else
     bif Nat.beq pc 3 then some (.bipush 127, 2, [], .inl (127), []) else none
   else
    bif Nat.ble 1 pc then
     bif Nat.beq pc 1 then some (.bipush 23, 2, [], .inl (23), []) else none
    else
     bif Nat.beq pc 0 then some (.lload_n 0, 1, [], .inl 0, []) else none
def kX0_doubleOfWhole (pc : Nat) : Option Ent := bif Nat.ble 26 pc then none else
 bif Nat.ble 12 pc then
  bif Nat.ble 20 pc then
   bif Nat.ble 24 pc then
    bif Nat.ble 25 pc then
     bif Nat.beq pc 25 then some (.lreturn, 1, [], .inl 0, []) else none
    else
     bif Nat.beq pc 24 then some (.lload_n 2, 1, [], .inl 0, []) else none
   else
    bif Nat.ble 21 pc then
     bif Nat.beq pc 21 then some (.goto 4, 3, [], .inl 0, []) else none
    else
     bif Nat.beq pc 20 then some (.lor, 1, [], .inl 0, []) else none
  else
   bif Nat.ble 16 pc then
    bif Nat.ble 17 pc then
     bif Nat.beq pc 17 then some (.ldc2_w 54, 3, [], .inr (.inl (-9223372036854775808)), []) else none
    else
     bif Nat.beq pc 16 then some (.lload_n 2, 1, [], .inl 0, []) else none
   else
    bif Nat.ble 13 pc then
     bif Nat.beq pc 13 then some (.ifCond .ge 11, 3, [], .inl 0, []) else none
    else
     bif Nat.beq pc 12 then some (.lcmp, 1, [], .inl 0, []) else none
 else
  bif Nat.ble 6 pc then
   bif Nat.ble 10 pc then
    bif Nat.ble 11 pc then
     bif Nat.beq pc 11 then some (.lconst 0, 1, [], .inr (.inl (0)), []) else none
    else
     bif Nat.beq pc 10 then some (.lload_n 0, 1, [], .inl 0, []) else none
   else
    bif Nat.ble 9 pc then
     bif Nat.beq pc 9 then some (.lstore_n 2, 1, [], .inl 0, []) else none
    else
     bif Nat.beq pc 6 then some (.invokestatic 49, 3, [38, 3, 2, 9, 100], .inl 0, []) else none
  else
   bif Nat.ble 1 pc then
    bif Nat.ble 3 pc then
     bif Nat.beq pc 3 then some (.sipush 1023, 3, [], .inl (1023), []) else none
    else
     bif Nat.beq pc 1 then some (.bipush 52, 2, [], .inl (52), []) else none
   else
    bif Nat.beq pc 0 then some (.lload_n 0, 1, [], .inl 0, []) else none
def kX0_sizeOfWhole (pc : Nat) : Option Ent := bif Nat.ble 74 pc then none else
 bif Nat.ble 40 pc then
  bif Nat.ble 60 pc then
   bif Nat.ble 68 pc then
    bif Nat.ble 71 pc then
     bif Nat.ble 72 pc then
      bif Nat.ble 73 pc then
       bif Nat.beq pc 73 then some (.lreturn, 1, [], .inl 0, []) else none
      else
       bif Nat.beq pc 72 then some (.lsub, 1, [], .inl 0, []) else none
     else
      bif Nat.beq pc 71 then some (.lshl, 1, [], .inl 0, []) else none
    else
     bif Nat.ble 69 pc then
      bif Nat.ble 70 pc then
       bif Nat.beq pc 70 then some (.iload_n 2, 1, [], .inl 0, []) else none
      else
       bif Nat.beq pc 69 then some (.lconst 1, 1, [], .inr (.inl (1)), []) else none
     else
      bif Nat.beq pc 68 then some (.ladd, 1, [], .inl 0, []) else none
   else
    bif Nat.ble 64 pc then
     bif Nat.ble 65 pc then
      bif Nat.ble 66 pc then
       bif Nat.beq pc 66 then some (.lload 7, 2, [], .inl 0, []) else none
      else
       bif Nat.beq pc 65 then some (.lshl, 1, [], .inl 0, []) else none
     else
      bif Nat.beq pc 64 then some (.iload_n 2, 1, [], .inl 0, []) else none
    else
     bif Nat.ble 62 pc then
      bif Nat.ble 63 pc then
       bif Nat.beq pc 63 then some (.i2l, 1, [], .inl 0, []) else none
      else
       bif Nat.beq pc 62 then some (.iadd, 1, [], .inl 0, []) else none
     else
      bif Nat.beq pc 60 then some (.iload 6, 2, [], .inl 0, []) else none
  else
   bif Nat.ble 50 pc then
    bif Nat.ble 54 pc then
     bif Nat.ble 57 pc then
      bif Nat.ble 59 pc then
       bif Nat.beq pc 59 then some (.iload_n 3, 1, [], .inl 0, []) else none
      else
       bif Nat.beq pc 57 then some (.lstore 7, 2, [], .inl 0, [0, 1, 4, 5, 7, 8]) else none
     else
      bif Nat.beq pc 54 then some (.invokestatic 60, 3, [39, 2, 2, 10, 100], .inl 0, []) else none
    else
     bif Nat.ble 52 pc then
      bif Nat.ble 53 pc then
       bif Nat.beq pc 53 then some (.isub, 1, [], .inl 0, []) else none
      else
       bif Nat.beq pc 52 then some (.iload_n 2, 1, [], .inl 0, []) else none
     else
      bif Nat.beq pc 50 then some (.iload 6, 2, [], .inl 0, []) else none
   else
    bif Nat.ble 44 pc then
     bif Nat.ble 45 pc then
      bif Nat.ble 48 pc then
       bif Nat.beq pc 48 then some (.lload 4, 2, [], .inl 0, []) else none
      else
       bif Nat.beq pc 45 then some (.goto 12, 3, [], .inl 0, []) else none
     else
      bif Nat.beq pc 44 then some (.lshl, 1, [], .inl 0, []) else none
    else
     bif Nat.ble 41 pc then
      bif Nat.ble 43 pc then
       bif Nat.beq pc 43 then some (.isub, 1, [], .inl 0, []) else none
      else
       bif Nat.beq pc 41 then some (.iload 6, 2, [], .inl 0, []) else none
     else
      bif Nat.beq pc 40 then some (.iload_n 2, 1, [], .inl 0, []) else none
 else
  bif Nat.ble 16 pc then
   bif Nat.ble 29 pc then
    bif Nat.ble 34 pc then
     bif Nat.ble 35 pc then
      bif Nat.ble 38 pc then
       bif Nat.beq pc 38 then some (.lload 4, 2, [], .inl 0, []) else none
      else
       bif Nat.beq pc 35 then some (.if_icmp .gt 13, 3, [], .inl 0, []) else none
     else
      bif Nat.beq pc 34 then some (.iload_n 2, 1, [], .inl 0, []) else none
    else
     bif Nat.ble 30 pc then
      bif Nat.ble 32 pc then
       bif Nat.beq pc 32 then some (.iload 6, 2, [], .inl 0, []) else none
      else
       bif Nat.beq pc 30 then some (.istore 6, 2, [], .inl 0, []) else none
     else
      bif Nat.beq pc 29 then some (.isub, 1, [], .inl 0, []) else none
   else
    bif Nat.ble 22 pc then
     bif Nat.ble 24 pc then
      bif Nat.ble 26 pc then
       bif Nat.beq pc 26 then some (.invokestatic 56, 3, [5, 1, 1, 3, 100], .inl 0, []) else none
      else
       bif Nat.beq pc 24 then some (.lload 4, 2, [], .inl 0, []) else none
     else
      bif Nat.beq pc 22 then some (.bipush 63, 2, [], .inl (63), []) else none
    else
     bif Nat.ble 19 pc then
      bif Nat.ble 20 pc then
       bif Nat.beq pc 20 then some (.lstore 4, 2, [], .inl 0, [0, 1, 4, 5, 6, 7, 8]) else none
      else
       bif Nat.beq pc 19 then some (.lload_n 0, 1, [], .inl 0, []) else none
     else
      bif Nat.beq pc 16 then some (.goto 4, 3, [], .inl 0, []) else none
  else
   bif Nat.ble 8 pc then
    bif Nat.ble 11 pc then
     bif Nat.ble 14 pc then
      bif Nat.ble 15 pc then
       bif Nat.beq pc 15 then some (.lneg, 1, [], .inl 0, []) else none
      else
       bif Nat.beq pc 14 then some (.lload_n 0, 1, [], .inl 0, []) else none
     else
      bif Nat.beq pc 11 then some (.ifCond .ge 8, 3, [], .inl 0, []) else none
    else
     bif Nat.ble 9 pc then
      bif Nat.ble 10 pc then
       bif Nat.beq pc 10 then some (.lcmp, 1, [], .inl 0, []) else none
      else
       bif Nat.beq pc 9 then some (.lconst 0, 1, [], .inr (.inl (0)), []) else none
     else
      bif Nat.beq pc 8 then some (.lload_n 0, 1, [], .inl 0, []) else none
   else
    bif Nat.ble 3 pc then
     bif Nat.ble 6 pc then
      bif Nat.ble 7 pc then
       bif Nat.beq pc 7 then some (.lreturn, 1, [], .inl 0, []) else none
      else
       bif Nat.beq pc 6 then some (.lconst 0, 1, [], .inr (.inl (0)), []) else none
     else
      bif Nat.beq pc 3 then some (.ifCond .ne 5, 3, [], .inl 0, []) else none
    else
     bif Nat.ble 1 pc then
      bif Nat.ble 2 pc then
       bif Nat.beq pc 2 then some (.lcmp, 1, [], .inl 0, []) else none
      else
       bif Nat.beq pc 1 then some (.lconst 0, 1, [], .inr (.inl (0)), []) else none
     else
      bif Nat.beq pc 0 then some (.lload_n 0, 1, [], .inl 0, []) else none
def kX0_nearestEven (pc : Nat) : Option Ent := bif Nat.ble 64 pc then none else
 bif Nat.ble 28 pc then
  bif Nat.ble 45 pc then
   bif Nat.ble 56 pc then
    bif Nat.ble 59 pc then
     bif Nat.ble 62 pc then
      bif Nat.ble 63 pc then
       bif Nat.beq pc 63 then some (.lreturn, 1, [], .inl 0, [0, 1, 2, 3, 4, 5, 6, 7, 8, 9]) else none
      else
       bif Nat.beq pc 62 then some (.lload_n 3, 1, [], .inl 0, []) else none
     else
      bif Nat.beq pc 59 then some (.goto 4, 3, [], .inl 0, []) else none
    else
     bif Nat.ble 57 pc then
      bif Nat.ble 58 pc then
       bif Nat.beq pc 58 then some (.ladd, 1, [], .inl 0, []) else none
      else
       bif Nat.beq pc 57 then some (.lconst 1, 1, [], .inr (.inl (1)), []) else none
     else
      bif Nat.beq pc 56 then some (.lload_n 3, 1, [], .inl 0, []) else none
   else
    bif Nat.ble 49 pc then
     bif Nat.ble 51 pc then
      bif Nat.ble 53 pc then
       bif Nat.beq pc 53 then some (.ifCond .eq 9, 3, [], .inl 0, []) else none
      else
       bif Nat.beq pc 51 then some (.iload 9, 2, [], .inl 0, []) else none
     else
      bif Nat.beq pc 49 then some (.istore 9, 2, [], .inl 0, [0, 1, 2, 4, 5, 6, 7, 8, 9]) else none
    else
     bif Nat.ble 48 pc then
      bif Nat.beq pc 48 then some (.iconst 0, 1, [], .inl (0), [0, 1, 2, 4, 5, 6, 7, 8, 9]) else none
     else
      bif Nat.beq pc 45 then some (.goto 4, 3, [], .inl 0, []) else none
  else
   bif Nat.ble 37 pc then
    bif Nat.ble 40 pc then
     bif Nat.ble 41 pc then
      bif Nat.ble 44 pc then
       bif Nat.beq pc 44 then some (.iconst 1, 1, [], .inl (1), [0, 1, 2, 4, 5, 6, 7, 8, 9]) else none
      else
       bif Nat.beq pc 41 then some (.ifCond .eq 7, 3, [], .inl 0, []) else none
     else
      bif Nat.beq pc 40 then some (.lcmp, 1, [], .inl 0, []) else none
    else
     bif Nat.ble 38 pc then
      bif Nat.ble 39 pc then
       bif Nat.beq pc 39 then some (.lconst 0, 1, [], .inr (.inl (0)), []) else none
      else
       bif Nat.beq pc 38 then some (.land, 1, [], .inl 0, []) else none
     else
      bif Nat.beq pc 37 then some (.lconst 1, 1, [], .inr (.inl (1)), []) else none
   else
    bif Nat.ble 32 pc then
     bif Nat.ble 33 pc then
      bif Nat.ble 36 pc then
       bif Nat.beq pc 36 then some (.lload_n 3, 1, [], .inl 0, []) else none
      else
       bif Nat.beq pc 33 then some (.ifCond .ne 15, 3, [], .inl 0, []) else none
     else
      bif Nat.beq pc 32 then some (.lcmp, 1, [], .inl 0, []) else none
    else
     bif Nat.ble 30 pc then
      bif Nat.beq pc 30 then some (.lload 7, 2, [], .inl 0, []) else none
     else
      bif Nat.beq pc 28 then some (.lload 5, 2, [], .inl 0, []) else none
 else
  bif Nat.ble 11 pc then
   bif Nat.ble 17 pc then
    bif Nat.ble 22 pc then
     bif Nat.ble 24 pc then
      bif Nat.ble 25 pc then
       bif Nat.beq pc 25 then some (.ifCond .gt 19, 3, [], .inl 0, []) else none
      else
       bif Nat.beq pc 24 then some (.lcmp, 1, [], .inl 0, []) else none
     else
      bif Nat.beq pc 22 then some (.lload 7, 2, [], .inl 0, []) else none
    else
     bif Nat.ble 18 pc then
      bif Nat.ble 20 pc then
       bif Nat.beq pc 20 then some (.lload 5, 2, [], .inl 0, []) else none
      else
       bif Nat.beq pc 18 then some (.lstore 7, 2, [], .inl 0, []) else none
     else
      bif Nat.beq pc 17 then some (.lshl, 1, [], .inl 0, []) else none
   else
    bif Nat.ble 14 pc then
     bif Nat.ble 15 pc then
      bif Nat.ble 16 pc then
       bif Nat.beq pc 16 then some (.isub, 1, [], .inl 0, []) else none
      else
       bif Nat.beq pc 15 then some (.iconst 1, 1, [], .inl (1), []) else none
     else
      bif Nat.beq pc 14 then some (.iload_n 2, 1, [], .inl 0, []) else none
    else
     bif Nat.ble 13 pc then
      bif Nat.beq pc 13 then some (.lconst 1, 1, [], .inr (.inl (1)), []) else none
     else
      bif Nat.beq pc 11 then some (.lstore 5, 2, [], .inl 0, []) else none
  else
   bif Nat.ble 5 pc then
    bif Nat.ble 8 pc then
     bif Nat.ble 9 pc then
      bif Nat.ble 10 pc then
       bif Nat.beq pc 10 then some (.land, 1, [], .inl 0, []) else none
      else
       bif Nat.beq pc 9 then some (.lsub, 1, [], .inl 0, []) else none
     else
      bif Nat.beq pc 8 then some (.lconst 1, 1, [], .inr (.inl (1)), []) else none
    else
     bif Nat.ble 6 pc then
      bif Nat.ble 7 pc then
       bif Nat.beq pc 7 then some (.lshl, 1, [], .inl 0, []) else none
      else
       bif Nat.beq pc 6 then some (.iload_n 2, 1, [], .inl 0, []) else none
     else
      bif Nat.beq pc 5 then some (.lconst 1, 1, [], .inr (.inl (1)), []) else none
   else
    bif Nat.ble 2 pc then
     bif Nat.ble 3 pc then
      bif Nat.ble 4 pc then
       bif Nat.beq pc 4 then some (.lload_n 0, 1, [], .inl 0, []) else none
      else
       bif Nat.beq pc 3 then some (.lstore_n 3, 1, [], .inl 0, []) else none
     else
      bif Nat.beq pc 2 then some (.lushr, 1, [], .inl 0, []) else none
    else
     bif Nat.ble 1 pc then
      bif Nat.beq pc 1 then some (.iload_n 2, 1, [], .inl 0, []) else none
     else
      bif Nat.beq pc 0 then some (.lload_n 0, 1, [], .inl 0, []) else none
def kX0_doubleOfFloat (pc : Nat) : Option Ent := bif Nat.ble 116 pc then none else
 bif Nat.ble 56 pc then
  bif Nat.ble 88 pc then
   bif Nat.ble 103 pc then
    bif Nat.ble 109 pc then
     bif Nat.ble 113 pc then
      bif Nat.ble 114 pc then
       bif Nat.ble 115 pc then
        bif Nat.beq pc 115 then some (.lreturn, 1, [], .inl 0, []) else none
       else
        bif Nat.beq pc 114 then some (.lor, 1, [], .inl 0, []) else none
      else
       bif Nat.beq pc 113 then some (.lshl, 1, [], .inl 0, []) else none
     else
      bif Nat.ble 111 pc then
       bif Nat.beq pc 111 then some (.bipush 29, 2, [], .inl (29), []) else none
      else
       bif Nat.beq pc 109 then some (.lload 5, 2, [], .inl 0, []) else none
    else
     bif Nat.ble 106 pc then
      bif Nat.ble 108 pc then
       bif Nat.beq pc 108 then some (.lor, 1, [], .inl 0, []) else none
      else
       bif Nat.beq pc 106 then some (.lload 7, 2, [], .inl 0, []) else none
     else
      bif Nat.ble 105 pc then
       bif Nat.beq pc 105 then some (.lload_n 1, 1, [], .inl 0, []) else none
      else
       bif Nat.beq pc 103 then some (.lstore 7, 2, [], .inl 0, []) else none
   else
    bif Nat.ble 95 pc then
     bif Nat.ble 99 pc then
      bif Nat.ble 100 pc then
       bif Nat.ble 102 pc then
        bif Nat.beq pc 102 then some (.lshl, 1, [], .inl 0, []) else none
       else
        bif Nat.beq pc 100 then some (.bipush 52, 2, [], .inl (52), []) else none
      else
       bif Nat.beq pc 99 then some (.i2l, 1, [], .inl 0, []) else none
     else
      bif Nat.ble 98 pc then
       bif Nat.beq pc 98 then some (.iadd, 1, [], .inl 0, []) else none
      else
       bif Nat.beq pc 95 then some (.sipush 1023, 3, [], .inl (1023), []) else none
    else
     bif Nat.ble 92 pc then
      bif Nat.ble 94 pc then
       bif Nat.beq pc 94 then some (.isub, 1, [], .inl 0, []) else none
      else
       bif Nat.beq pc 92 then some (.bipush 127, 2, [], .inl (127), []) else none
     else
      bif Nat.ble 90 pc then
       bif Nat.beq pc 90 then some (.iload 4, 2, [], .inl 0, [0, 2, 3, 6, 7, 8]) else none
      else
       bif Nat.beq pc 88 then some (.lstore 5, 2, [], .inl 0, []) else none
  else
   bif Nat.ble 73 pc then
    bif Nat.ble 79 pc then
     bif Nat.ble 83 pc then
      bif Nat.ble 84 pc then
       bif Nat.ble 87 pc then
        bif Nat.beq pc 87 then some (.lsub, 1, [], .inl 0, []) else none
       else
        bif Nat.beq pc 84 then some (.ldc2_w 65, 3, [], .inr (.inl (8388608)), []) else none
      else
       bif Nat.beq pc 83 then some (.lshl, 1, [], .inl 0, []) else none
     else
      bif Nat.ble 81 pc then
       bif Nat.beq pc 81 then some (.iload 7, 2, [], .inl 0, []) else none
      else
       bif Nat.beq pc 79 then some (.lload 5, 2, [], .inl 0, []) else none
    else
     bif Nat.ble 76 pc then
      bif Nat.ble 77 pc then
       bif Nat.beq pc 77 then some (.istore 4, 2, [], .inl 0, []) else none
      else
       bif Nat.beq pc 76 then some (.isub, 1, [], .inl 0, []) else none
     else
      bif Nat.ble 74 pc then
       bif Nat.beq pc 74 then some (.iload 7, 2, [], .inl 0, []) else none
      else
       bif Nat.beq pc 73 then some (.iconst 1, 1, [], .inl (1), []) else none
   else
    bif Nat.ble 65 pc then
     bif Nat.ble 70 pc then
      bif Nat.ble 71 pc then
       bif Nat.beq pc 71 then some (.istore 7, 2, [], .inl 0, []) else none
      else
       bif Nat.beq pc 70 then some (.isub, 1, [], .inl 0, []) else none
     else
      bif Nat.ble 68 pc then
       bif Nat.beq pc 68 then some (.bipush 40, 2, [], .inl (40), []) else none
      else
       bif Nat.beq pc 65 then some (.invokestatic 56, 3, [5, 1, 1, 3, 100], .inl 0, []) else none
    else
     bif Nat.ble 60 pc then
      bif Nat.ble 63 pc then
       bif Nat.beq pc 63 then some (.lload 5, 2, [], .inl 0, []) else none
      else
       bif Nat.beq pc 60 then some (.ifCond .ne 30, 3, [], .inl 0, []) else none
     else
      bif Nat.ble 58 pc then
       bif Nat.beq pc 58 then some (.iload 4, 2, [], .inl 0, []) else none
      else
       bif Nat.beq pc 56 then some (.lstore 5, 2, [], .inl 0, []) else none
 else
  bif Nat.ble 29 pc then
   bif Nat.ble 44 pc then
    bif Nat.ble 49 pc then
     bif Nat.ble 52 pc then
      bif Nat.ble 54 pc then
       bif Nat.ble 55 pc then
        bif Nat.beq pc 55 then some (.i2l, 1, [], .inl 0, []) else none
       else
        bif Nat.beq pc 54 then some (.iand, 1, [], .inl 0, []) else none
      else
       bif Nat.beq pc 52 then some (.ldc 64, 2, [], .inl (8388607), []) else none
     else
      bif Nat.ble 51 pc then
       bif Nat.beq pc 51 then some (.iload_n 3, 1, [], .inl 0, []) else none
      else
       bif Nat.beq pc 49 then some (.istore 4, 2, [], .inl 0, []) else none
    else
     bif Nat.ble 46 pc then
      bif Nat.ble 48 pc then
       bif Nat.beq pc 48 then some (.ishr, 1, [], .inl 0, []) else none
      else
       bif Nat.beq pc 46 then some (.bipush 23, 2, [], .inl (23), []) else none
     else
      bif Nat.ble 45 pc then
       bif Nat.beq pc 45 then some (.iload_n 3, 1, [], .inl 0, []) else none
      else
       bif Nat.beq pc 44 then some (.lreturn, 1, [], .inl 0, []) else none
   else
    bif Nat.ble 36 pc then
     bif Nat.ble 40 pc then
      bif Nat.ble 43 pc then
       bif Nat.beq pc 43 then some (.lor, 1, [], .inl 0, []) else none
      else
       bif Nat.beq pc 40 then some (.ldc2_w 33, 3, [], .inr (.inl (9218868437227405312)), []) else none
     else
      bif Nat.ble 39 pc then
       bif Nat.beq pc 39 then some (.lload_n 1, 1, [], .inl 0, []) else none
      else
       bif Nat.beq pc 36 then some (.if_icmp .ne 9, 3, [], .inl 0, []) else none
    else
     bif Nat.ble 33 pc then
      bif Nat.ble 34 pc then
       bif Nat.beq pc 34 then some (.ldc 20, 2, [], .inl (2139095040), []) else none
      else
       bif Nat.beq pc 33 then some (.iload_n 3, 1, [], .inl 0, []) else none
     else
      bif Nat.ble 32 pc then
       bif Nat.beq pc 32 then some (.lreturn, 1, [], .inl 0, []) else none
      else
       bif Nat.beq pc 29 then some (.ldc2_w 27, 3, [], .inr (.inl (9221120237041090560)), []) else none
  else
   bif Nat.ble 15 pc then
    bif Nat.ble 21 pc then
     bif Nat.ble 23 pc then
      bif Nat.ble 24 pc then
       bif Nat.ble 26 pc then
        bif Nat.beq pc 26 then some (.if_icmp .le 7, 3, [], .inl 0, []) else none
       else
        bif Nat.beq pc 24 then some (.ldc 20, 2, [], .inl (2139095040), []) else none
      else
       bif Nat.beq pc 23 then some (.iload_n 3, 1, [], .inl 0, []) else none
     else
      bif Nat.ble 22 pc then
       bif Nat.beq pc 22 then some (.lreturn, 1, [], .inl 0, []) else none
      else
       bif Nat.beq pc 21 then some (.lload_n 1, 1, [], .inl 0, []) else none
    else
     bif Nat.ble 17 pc then
      bif Nat.ble 18 pc then
       bif Nat.beq pc 18 then some (.ifCond .ne 5, 3, [], .inl 0, []) else none
      else
       bif Nat.beq pc 17 then some (.iload_n 3, 1, [], .inl 0, []) else none
     else
      bif Nat.ble 16 pc then
       bif Nat.beq pc 16 then some (.istore_n 3, 1, [], .inl 0, []) else none
      else
       bif Nat.beq pc 15 then some (.iand, 1, [], .inl 0, []) else none
   else
    bif Nat.ble 10 pc then
     bif Nat.ble 12 pc then
      bif Nat.ble 13 pc then
       bif Nat.beq pc 13 then some (.ldc 17, 2, [], .inl (2147483647), []) else none
      else
       bif Nat.beq pc 12 then some (.iload_n 0, 1, [], .inl 0, []) else none
     else
      bif Nat.ble 11 pc then
       bif Nat.beq pc 11 then some (.lstore_n 1, 1, [], .inl 0, [1, 2, 3, 4, 5, 6, 7, 8]) else none
      else
       bif Nat.beq pc 10 then some (.lconst 0, 1, [], .inr (.inl (0)), []) else none
    else
     bif Nat.ble 4 pc then
      bif Nat.ble 7 pc then
       bif Nat.beq pc 7 then some (.goto 4, 3, [], .inl 0, []) else none
      else
       bif Nat.beq pc 4 then some (.ldc2_w 54, 3, [], .inr (.inl (-9223372036854775808)), []) else none
     else
      bif Nat.ble 1 pc then
       bif Nat.beq pc 1 then some (.ifCond .ge 9, 3, [], .inl 0, []) else none
      else
       bif Nat.beq pc 0 then some (.iload_n 0, 1, [], .inl 0, []) else none
def kX1_init (pc : Nat) : Option Ent := bif Nat.ble 26 pc then none else
 bif Nat.ble 11 pc then
  bif Nat.ble 19 pc then
   bif Nat.ble 22 pc then
    bif Nat.ble 25 pc then
     bif Nat.beq pc 25 then some (.return_, 1, [], .inl 0, []) else none
    else
     bif Nat.beq pc 22 then some (.putfield 20, 3, [1, 67, 1], .inl 0, []) else none
   else
    bif Nat.ble 20 pc then
     bif Nat.beq pc 20 then some (.lload 5, 2, [], .inl 0, []) else none
    else
     bif Nat.beq pc 19 then some (.aload_n 0, 1, [], .inl 0, []) else none
  else
   bif Nat.ble 15 pc then
    bif Nat.ble 16 pc then
     bif Nat.beq pc 16 then some (.putfield 16, 3, [1, 66, 1], .inl 0, []) else none
    else
     bif Nat.beq pc 15 then some (.lload_n 3, 1, [], .inl 0, []) else none
   else
    bif Nat.ble 14 pc then
     bif Nat.beq pc 14 then some (.aload_n 0, 1, [], .inl 0, []) else none
    else
     bif Nat.beq pc 11 then some (.putfield 13, 3, [1, 65, 0], .inl 0, []) else none
 else
  bif Nat.ble 5 pc then
   bif Nat.ble 9 pc then
    bif Nat.ble 10 pc then
     bif Nat.beq pc 10 then some (.iload_n 2, 1, [], .inl 0, []) else none
    else
     bif Nat.beq pc 9 then some (.aload_n 0, 1, [], .inl 0, []) else none
   else
    bif Nat.ble 6 pc then
     bif Nat.beq pc 6 then some (.putfield 7, 3, [1, 64, 0], .inl 0, []) else none
    else
     bif Nat.beq pc 5 then some (.iload_n 1, 1, [], .inl 0, []) else none
  else
   bif Nat.ble 1 pc then
    bif Nat.ble 4 pc then
     bif Nat.beq pc 4 then some (.aload_n 0, 1, [], .inl 0, []) else none
    else
     bif Nat.beq pc 1 then some (.invokespecial 1, 3, [9000], .inl 0, []) else none
   else
    bif Nat.beq pc 0 then some (.aload_n 0, 1, [], .inl 0, []) else none
def kX2_init (pc : Nat) : Option Ent := bif Nat.ble 15 pc then none else
 bif Nat.ble 6 pc then
  bif Nat.ble 10 pc then
   bif Nat.ble 11 pc then
    bif Nat.ble 14 pc then
     bif Nat.beq pc 14 then some (.return_, 1, [], .inl 0, []) else none
    else
     bif Nat.beq pc 11 then some (.putfield 13, 3, [2, 129, 3], .inl 0, []) else none
   else
    bif Nat.beq pc 10 then some (.iload_n 3, 1, [], .inl 0, []) else none
  else
   bif Nat.ble 9 pc then
    bif Nat.beq pc 9 then some (.aload_n 0, 1, [], .inl 0, []) else none
   else
    bif Nat.beq pc 6 then some (.putfield 7, 3, [2, 128, 1], .inl 0, []) else none
 else
  bif Nat.ble 4 pc then
   bif Nat.ble 5 pc then
    bif Nat.beq pc 5 then some (.lload_n 1, 1, [], .inl 0, []) else none
   else
    bif Nat.beq pc 4 then some (.aload_n 0, 1, [], .inl 0, []) else none
  else
   bif Nat.ble 1 pc then
    bif Nat.beq pc 1 then some (.invokespecial 1, 3, [9000], .inl 0, []) else none
   else
    bif Nat.beq pc 0 then some (.aload_n 0, 1, [], .inl 0, []) else none
def kX2_once (pc : Nat) : Option Ent := bif Nat.ble 21 pc then none else
 bif Nat.ble 11 pc then
  bif Nat.ble 17 pc then
   bif Nat.ble 19 pc then
    bif Nat.ble 20 pc then
     bif Nat.beq pc 20 then some (.ireturn, 1, [], .inl 0, []) else none
    else
     bif Nat.beq pc 19 then some (.iadd, 1, [], .inl 0, []) else none
   else
    bif Nat.ble 18 pc then
     bif Nat.beq pc 18 then some (.iload_n 1, 1, [], .inl 0, []) else none
    else
     bif Nat.beq pc 17 then some (.iload_n 2, 1, [], .inl 0, []) else none
  else
   bif Nat.ble 13 pc then
    bif Nat.ble 14 pc then
     bif Nat.beq pc 14 then some (.goto 6, 3, [], .inl 0, []) else none
    else
     bif Nat.beq pc 13 then some (.isub, 1, [], .inl 0, []) else none
   else
    bif Nat.ble 12 pc then
     bif Nat.beq pc 12 then some (.iconst 1, 1, [], .inl (1), []) else none
    else
     bif Nat.beq pc 11 then some (.imul, 1, [], .inl 0, []) else none
 else
  bif Nat.ble 7 pc then
   bif Nat.ble 9 pc then
    bif Nat.ble 10 pc then
     bif Nat.beq pc 10 then some (.iconst 3, 1, [], .inl (3), []) else none
    else
     bif Nat.beq pc 9 then some (.iadd, 1, [], .inl 0, []) else none
   else
    bif Nat.ble 8 pc then
     bif Nat.beq pc 8 then some (.iload_n 1, 1, [], .inl 0, []) else none
    else
     bif Nat.beq pc 7 then some (.iload_n 2, 1, [], .inl 0, []) else none
  else
   bif Nat.ble 1 pc then
    bif Nat.ble 4 pc then
     bif Nat.beq pc 4 then some (.ifCond .eq 13, 3, [], .inl 0, []) else none
    else
     bif Nat.beq pc 1 then some (.getfield 13, 3, [2, 129, 0], .inl 0, []) else none
   else
    bif Nat.beq pc 0 then some (.aload_n 0, 1, [], .inl 0, []) else none
def kX2_twice (pc : Nat) : Option Ent := bif Nat.ble 33 pc then none else
 bif Nat.ble 16 pc then
  bif Nat.ble 23 pc then
   bif Nat.ble 28 pc then
    bif Nat.ble 29 pc then
     bif Nat.ble 32 pc then
      bif Nat.beq pc 32 then some (.ireturn, 1, [], .inl 0, []) else none
     else
      bif Nat.beq pc 29 then some (.invokevirtual 17, 3, [43, 3, 1, 3, 2], .inl 0, []) else none
    else
     bif Nat.beq pc 28 then some (.iload_n 3, 1, [], .inl 0, []) else none
   else
    bif Nat.ble 26 pc then
     bif Nat.ble 27 pc then
      bif Nat.beq pc 27 then some (.iload_n 1, 1, [], .inl 0, []) else none
     else
      bif Nat.beq pc 26 then some (.aload_n 0, 1, [], .inl 0, []) else none
    else
     bif Nat.beq pc 23 then some (.goto 9, 3, [], .inl 0, []) else none
  else
   bif Nat.ble 20 pc then
    bif Nat.ble 21 pc then
     bif Nat.ble 22 pc then
      bif Nat.beq pc 22 then some (.isub, 1, [], .inl 0, []) else none
     else
      bif Nat.beq pc 21 then some (.iload_n 3, 1, [], .inl 0, []) else none
    else
     bif Nat.beq pc 20 then some (.iload_n 2, 1, [], .inl 0, []) else none
   else
    bif Nat.ble 17 pc then
     bif Nat.beq pc 17 then some (.ifCond .eq 9, 3, [], .inl 0, []) else none
    else
     bif Nat.beq pc 16 then some (.irem, 1, [], .inl 0, []) else none
 else
  bif Nat.ble 7 pc then
   bif Nat.ble 11 pc then
    bif Nat.ble 14 pc then
     bif Nat.ble 15 pc then
      bif Nat.beq pc 15 then some (.iconst 2, 1, [], .inl (2), []) else none
     else
      bif Nat.beq pc 14 then some (.iload_n 1, 1, [], .inl 0, []) else none
    else
     bif Nat.beq pc 11 then some (.ifCond .eq 15, 3, [], .inl 0, []) else none
   else
    bif Nat.ble 8 pc then
     bif Nat.beq pc 8 then some (.getfield 13, 3, [2, 129, 0], .inl 0, []) else none
    else
     bif Nat.beq pc 7 then some (.aload_n 0, 1, [], .inl 0, []) else none
  else
   bif Nat.ble 2 pc then
    bif Nat.ble 3 pc then
     bif Nat.ble 6 pc then
      bif Nat.beq pc 6 then some (.istore_n 3, 1, [], .inl 0, []) else none
     else
      bif Nat.beq pc 3 then some (.invokevirtual 17, 3, [43, 3, 1, 3, 2], .inl 0, []) else none
    else
     bif Nat.beq pc 2 then some (.iload_n 2, 1, [], .inl 0, []) else none
   else
    bif Nat.ble 1 pc then
     bif Nat.beq pc 1 then some (.iload_n 1, 1, [], .inl 0, []) else none
    else
     bif Nat.beq pc 0 then some (.aload_n 0, 1, [], .inl 0, []) else none
def kX3_init (pc : Nat) : Option Ent := bif Nat.ble 16 pc then none else
 bif Nat.ble 8 pc then
  bif Nat.ble 12 pc then
   bif Nat.ble 15 pc then
    bif Nat.beq pc 15 then some (.return_, 1, [], .inl 0, []) else none
   else
    bif Nat.beq pc 12 then some (.putfield 12, 3, [3, 192, 2], .inl 0, []) else none
  else
   bif Nat.ble 9 pc then
    bif Nat.beq pc 9 then some (.invokespecial 11, 3, [11, 1, 0, 1, 0], .inl 0, []) else none
   else
    bif Nat.beq pc 8 then some (.dup, 1, [], .inl 0, []) else none
 else
  bif Nat.ble 4 pc then
   bif Nat.ble 5 pc then
    bif Nat.beq pc 5 then some (.new 9, 3, [0, 3], .inl 0, []) else none
   else
    bif Nat.beq pc 4 then some (.aload_n 0, 1, [], .inl 0, []) else none
  else
   bif Nat.ble 1 pc then
    bif Nat.beq pc 1 then some (.invokespecial 3, 3, [9000], .inl 0, []) else none
   else
    bif Nat.beq pc 0 then some (.aload_n 0, 1, [], .inl 0, []) else none
def kX3_constantAt (pc : Nat) : Option Ent := bif Nat.ble 36 pc then none else
 bif Nat.ble 16 pc then
  bif Nat.ble 25 pc then
   bif Nat.ble 31 pc then
    bif Nat.ble 34 pc then
     bif Nat.ble 35 pc then
      bif Nat.beq pc 35 then some (.areturn, 1, [], .inl 0, []) else none
     else
      bif Nat.beq pc 34 then some (.aconst_null, 1, [], .inl 0, []) else none
    else
     bif Nat.beq pc 31 then some (.goto 4, 3, [], .inl 0, []) else none
   else
    bif Nat.ble 28 pc then
     bif Nat.beq pc 28 then some (.checkcast 26, 3, [2], .inl 0, []) else none
    else
     bif Nat.beq pc 25 then some (.invokevirtual 22, 3, [16, 2, 3, 2, 0], .inl 0, []) else none
  else
   bif Nat.ble 20 pc then
    bif Nat.ble 23 pc then
     bif Nat.ble 24 pc then
      bif Nat.beq pc 24 then some (.l2i, 1, [], .inl 0, []) else none
     else
      bif Nat.beq pc 23 then some (.lload_n 1, 1, [], .inl 0, []) else none
    else
     bif Nat.beq pc 20 then some (.getfield 12, 3, [3, 192, 2], .inl 0, []) else none
   else
    bif Nat.ble 19 pc then
     bif Nat.beq pc 19 then some (.aload_n 0, 1, [], .inl 0, []) else none
    else
     bif Nat.beq pc 16 then some (.ifCond .ge 18, 3, [], .inl 0, []) else none
 else
  bif Nat.ble 7 pc then
   bif Nat.ble 11 pc then
    bif Nat.ble 14 pc then
     bif Nat.ble 15 pc then
      bif Nat.beq pc 15 then some (.lcmp, 1, [], .inl 0, []) else none
     else
      bif Nat.beq pc 14 then some (.i2l, 1, [], .inl 0, []) else none
    else
     bif Nat.beq pc 11 then some (.invokevirtual 18, 3, [14, 1, 1, 1, 0], .inl 0, []) else none
   else
    bif Nat.ble 8 pc then
     bif Nat.beq pc 8 then some (.getfield 12, 3, [3, 192, 2], .inl 0, []) else none
    else
     bif Nat.beq pc 7 then some (.aload_n 0, 1, [], .inl 0, []) else none
  else
   bif Nat.ble 2 pc then
    bif Nat.ble 3 pc then
     bif Nat.ble 6 pc then
      bif Nat.beq pc 6 then some (.lload_n 1, 1, [], .inl 0, []) else none
     else
      bif Nat.beq pc 3 then some (.ifCond .lt 31, 3, [], .inl 0, []) else none
    else
     bif Nat.beq pc 2 then some (.lcmp, 1, [], .inl 0, []) else none
   else
    bif Nat.ble 1 pc then
     bif Nat.beq pc 1 then some (.lconst 0, 1, [], .inr (.inl (0)), []) else none
    else
     bif Nat.beq pc 0 then some (.lload_n 1, 1, [], .inl 0, []) else none
def kX3_ordinalOf (pc : Nat) : Option Ent := bif Nat.ble 42 pc then none else
 bif Nat.ble 21 pc then
  bif Nat.ble 32 pc then
   bif Nat.ble 37 pc then
    bif Nat.ble 40 pc then
     bif Nat.ble 41 pc then
      bif Nat.beq pc 41 then some (.ireturn, 1, [], .inl 0, []) else none
     else
      bif Nat.beq pc 40 then some (.iconst (-1), 1, [], .inl (-1), []) else none
    else
     bif Nat.beq pc 37 then some (.goto (-35), 3, [], .inl 0, []) else none
   else
    bif Nat.ble 33 pc then
     bif Nat.ble 34 pc then
      bif Nat.beq pc 34 then some (.iinc 3 1, 3, [], .inl (1), []) else none
     else
      bif Nat.beq pc 33 then some (.ireturn, 1, [], .inl 0, []) else none
    else
     bif Nat.beq pc 32 then some (.iload_n 3, 1, [], .inl 0, []) else none
  else
   bif Nat.ble 27 pc then
    bif Nat.ble 28 pc then
     bif Nat.ble 29 pc then
      bif Nat.beq pc 29 then some (.ifCond .ne 5, 3, [], .inl 0, []) else none
     else
      bif Nat.beq pc 28 then some (.lcmp, 1, [], .inl 0, []) else none
    else
     bif Nat.beq pc 27 then some (.lload_n 1, 1, [], .inl 0, []) else none
   else
    bif Nat.ble 24 pc then
     bif Nat.beq pc 24 then some (.getfield 28, 3, [2, 128, 1], .inl 0, []) else none
    else
     bif Nat.beq pc 21 then some (.checkcast 26, 3, [2], .inl 0, []) else none
 else
  bif Nat.ble 7 pc then
   bif Nat.ble 14 pc then
    bif Nat.ble 17 pc then
     bif Nat.ble 18 pc then
      bif Nat.beq pc 18 then some (.invokevirtual 22, 3, [16, 2, 3, 2, 0], .inl 0, []) else none
     else
      bif Nat.beq pc 17 then some (.iload_n 3, 1, [], .inl 0, []) else none
    else
     bif Nat.beq pc 14 then some (.getfield 12, 3, [3, 192, 2], .inl 0, []) else none
   else
    bif Nat.ble 10 pc then
     bif Nat.ble 13 pc then
      bif Nat.beq pc 13 then some (.aload_n 0, 1, [], .inl 0, []) else none
     else
      bif Nat.beq pc 10 then some (.if_icmp .ge 30, 3, [], .inl 0, []) else none
    else
     bif Nat.beq pc 7 then some (.invokevirtual 18, 3, [14, 1, 1, 1, 0], .inl 0, []) else none
  else
   bif Nat.ble 2 pc then
    bif Nat.ble 3 pc then
     bif Nat.ble 4 pc then
      bif Nat.beq pc 4 then some (.getfield 12, 3, [3, 192, 2], .inl 0, []) else none
     else
      bif Nat.beq pc 3 then some (.aload_n 0, 1, [], .inl 0, []) else none
    else
     bif Nat.beq pc 2 then some (.iload_n 3, 1, [], .inl 0, [2]) else none
   else
    bif Nat.ble 1 pc then
     bif Nat.beq pc 1 then some (.istore_n 3, 1, [], .inl 0, []) else none
    else
     bif Nat.beq pc 0 then some (.iconst 0, 1, [], .inl (0), []) else none
def kX3_rest (pc : Nat) : Option Ent := bif Nat.ble 11 pc then none else
 bif Nat.ble 5 pc then
  bif Nat.ble 7 pc then
   bif Nat.ble 10 pc then
    bif Nat.beq pc 10 then some (.return_, 1, [], .inl 0, []) else none
   else
    bif Nat.beq pc 7 then some (.putfield 36, 3, [3, 195, 3], .inl 0, []) else none
  else
   bif Nat.ble 6 pc then
    bif Nat.beq pc 6 then some (.iconst 0, 1, [], .inl (0), []) else none
   else
    bif Nat.beq pc 5 then some (.aload_n 0, 1, [], .inl 0, []) else none
 else
  bif Nat.ble 1 pc then
   bif Nat.ble 2 pc then
    bif Nat.beq pc 2 then some (.putfield 32, 3, [3, 194, 3], .inl 0, []) else none
   else
    bif Nat.beq pc 1 then some (.iconst 0, 1, [], .inl (0), []) else none
  else
   bif Nat.beq pc 0 then some (.aload_n 0, 1, [], .inl 0, []) else none
def kX4_init (pc : Nat) : Option Ent := bif Nat.ble 20 pc then none else
 bif Nat.ble 8 pc then
  bif Nat.ble 14 pc then
   bif Nat.ble 16 pc then
    bif Nat.ble 19 pc then
     bif Nat.beq pc 19 then some (.return_, 1, [], .inl 0, []) else none
    else
     bif Nat.beq pc 16 then some (.putfield 15, 3, [4, 258, 2], .inl 0, []) else none
   else
    bif Nat.beq pc 14 then some (.newarray .int, 2, [20], .inl 0, []) else none
  else
   bif Nat.ble 11 pc then
    bif Nat.ble 12 pc then
     bif Nat.beq pc 12 then some (.bipush 6, 2, [], .inl (6), []) else none
    else
     bif Nat.beq pc 11 then some (.aload_n 0, 1, [], .inl 0, []) else none
   else
    bif Nat.beq pc 8 then some (.putfield 9, 3, [4, 256, 2], .inl 0, []) else none
 else
  bif Nat.ble 4 pc then
   bif Nat.ble 5 pc then
    bif Nat.ble 6 pc then
     bif Nat.beq pc 6 then some (.newarray .int, 2, [20], .inl 0, []) else none
    else
     bif Nat.beq pc 5 then some (.iconst 4, 1, [], .inl (4), []) else none
   else
    bif Nat.beq pc 4 then some (.aload_n 0, 1, [], .inl 0, []) else none
  else
   bif Nat.ble 1 pc then
    bif Nat.beq pc 1 then some (.invokespecial 3, 3, [9000], .inl 0, []) else none
   else
    bif Nat.beq pc 0 then some (.aload_n 0, 1, [], .inl 0, []) else none
def kX4_hasMember (pc : Nat) : Option Ent := bif Nat.ble 30 pc then none else
 bif Nat.ble 15 pc then
  bif Nat.ble 21 pc then
   bif Nat.ble 25 pc then
    bif Nat.ble 28 pc then
     bif Nat.ble 29 pc then
      bif Nat.beq pc 29 then some (.ireturn, 1, [1], .inl 0, []) else none
     else
      bif Nat.beq pc 28 then some (.iconst 0, 1, [], .inl (0), []) else none
    else
     bif Nat.beq pc 25 then some (.goto (-23), 3, [], .inl 0, []) else none
   else
    bif Nat.ble 22 pc then
     bif Nat.beq pc 22 then some (.iinc 2 1, 3, [], .inl (1), []) else none
    else
     bif Nat.beq pc 21 then some (.ireturn, 1, [1], .inl 0, []) else none
  else
   bif Nat.ble 17 pc then
    bif Nat.ble 20 pc then
     bif Nat.beq pc 20 then some (.iconst 1, 1, [], .inl (1), []) else none
    else
     bif Nat.beq pc 17 then some (.if_icmp .ne 5, 3, [], .inl 0, []) else none
   else
    bif Nat.ble 16 pc then
     bif Nat.beq pc 16 then some (.iload_n 1, 1, [], .inl 0, []) else none
    else
     bif Nat.beq pc 15 then some (.iaload, 1, [], .inl 0, []) else none
 else
  bif Nat.ble 4 pc then
   bif Nat.ble 10 pc then
    bif Nat.ble 11 pc then
     bif Nat.ble 14 pc then
      bif Nat.beq pc 14 then some (.iload_n 2, 1, [], .inl 0, []) else none
     else
      bif Nat.beq pc 11 then some (.getfield 9, 3, [4, 256, 2], .inl 0, []) else none
    else
     bif Nat.beq pc 10 then some (.aload_n 0, 1, [], .inl 0, []) else none
   else
    bif Nat.ble 7 pc then
     bif Nat.beq pc 7 then some (.if_icmp .ge 21, 3, [], .inl 0, []) else none
    else
     bif Nat.beq pc 4 then some (.getfield 18, 3, [4, 257, 0], .inl 0, []) else none
  else
   bif Nat.ble 2 pc then
    bif Nat.ble 3 pc then
     bif Nat.beq pc 3 then some (.aload_n 0, 1, [], .inl 0, []) else none
    else
     bif Nat.beq pc 2 then some (.iload_n 2, 1, [], .inl 0, []) else none
   else
    bif Nat.ble 1 pc then
     bif Nat.beq pc 1 then some (.istore_n 2, 1, [], .inl 0, []) else none
    else
     bif Nat.beq pc 0 then some (.iconst 0, 1, [], .inl (0), []) else none
def kX4_tagOf (pc : Nat) : Option Ent := bif Nat.ble 30 pc then none else
 bif Nat.ble 15 pc then
  bif Nat.ble 21 pc then
   bif Nat.ble 25 pc then
    bif Nat.ble 28 pc then
     bif Nat.ble 29 pc then
      bif Nat.beq pc 29 then some (.ireturn, 1, [], .inl 0, []) else none
     else
      bif Nat.beq pc 28 then some (.iconst (-1), 1, [], .inl (-1), []) else none
    else
     bif Nat.beq pc 25 then some (.goto (-23), 3, [], .inl 0, []) else none
   else
    bif Nat.ble 22 pc then
     bif Nat.beq pc 22 then some (.iinc 2 1, 3, [], .inl (1), []) else none
    else
     bif Nat.beq pc 21 then some (.ireturn, 1, [], .inl 0, []) else none
  else
   bif Nat.ble 17 pc then
    bif Nat.ble 20 pc then
     bif Nat.beq pc 20 then some (.iload_n 2, 1, [], .inl 0, []) else none
    else
     bif Nat.beq pc 17 then some (.if_icmp .ne 5, 3, [], .inl 0, []) else none
   else
    bif Nat.ble 16 pc then
     bif Nat.beq pc 16 then some (.iload_n 1, 1, [], .inl 0, []) else none
    else
     bif Nat.beq pc 15 then some (.iaload, 1, [], .inl 0, []) else none
 else
  bif Nat.ble 4 pc then
   bif Nat.ble 10 pc then
    bif Nat.ble 11 pc then
     bif Nat.ble 14 pc then
      bif Nat.beq pc 14 then some (.iload_n 2, 1, [], .inl 0, []) else none
     else
      bif Nat.beq pc 11 then some (.getfield 15, 3, [4, 258, 2], .inl 0, []) else none
    else
     bif Nat.beq pc 10 then some (.aload_n 0, 1, [], .inl 0, []) else none
   else
    bif Nat.ble 7 pc then
     bif Nat.beq pc 7 then some (.if_icmp .ge 21, 3, [], .inl 0, []) else none
    else
     bif Nat.beq pc 4 then some (.getfield 22, 3, [4, 259, 0], .inl 0, []) else none
  else
   bif Nat.ble 2 pc then
    bif Nat.ble 3 pc then
     bif Nat.beq pc 3 then some (.aload_n 0, 1, [], .inl 0, []) else none
    else
     bif Nat.beq pc 2 then some (.iload_n 2, 1, [], .inl 0, []) else none
   else
    bif Nat.ble 1 pc then
     bif Nat.beq pc 1 then some (.istore_n 2, 1, [], .inl 0, []) else none
    else
     bif Nat.beq pc 0 then some (.iconst 0, 1, [], .inl (0), []) else none
def kX4_addLeaf (pc : Nat) : Option Ent := bif Nat.ble 39 pc then none else
 bif Nat.ble 21 pc then
  bif Nat.ble 31 pc then
   bif Nat.ble 36 pc then
    bif Nat.ble 37 pc then
     bif Nat.ble 38 pc then
      bif Nat.beq pc 38 then some (.return_, 1, [], .inl 0, []) else none
     else
      bif Nat.beq pc 37 then some (.iastore, 1, [], .inl 0, []) else none
    else
     bif Nat.beq pc 36 then some (.iload_n 1, 1, [], .inl 0, []) else none
   else
    bif Nat.ble 32 pc then
     bif Nat.ble 33 pc then
      bif Nat.beq pc 33 then some (.putfield 22, 3, [4, 259, 0], .inl 0, []) else none
     else
      bif Nat.beq pc 32 then some (.iadd, 1, [], .inl 0, []) else none
    else
     bif Nat.beq pc 31 then some (.iconst 1, 1, [], .inl (1), []) else none
  else
   bif Nat.ble 26 pc then
    bif Nat.ble 27 pc then
     bif Nat.ble 30 pc then
      bif Nat.beq pc 30 then some (.dup_x1, 1, [], .inl 0, []) else none
     else
      bif Nat.beq pc 27 then some (.getfield 22, 3, [4, 259, 0], .inl 0, []) else none
    else
     bif Nat.beq pc 26 then some (.dup, 1, [], .inl 0, []) else none
   else
    bif Nat.ble 22 pc then
     bif Nat.ble 25 pc then
      bif Nat.beq pc 25 then some (.aload_n 0, 1, [], .inl 0, []) else none
     else
      bif Nat.beq pc 22 then some (.getfield 15, 3, [4, 258, 2], .inl 0, []) else none
    else
     bif Nat.beq pc 21 then some (.aload_n 0, 1, [], .inl 0, []) else none
 else
  bif Nat.ble 9 pc then
   bif Nat.ble 14 pc then
    bif Nat.ble 17 pc then
     bif Nat.ble 18 pc then
      bif Nat.beq pc 18 then some (.if_icmp .ge 20, 3, [], .inl 0, []) else none
     else
      bif Nat.beq pc 17 then some (.arraylength, 1, [], .inl 0, []) else none
    else
     bif Nat.beq pc 14 then some (.getfield 15, 3, [4, 258, 2], .inl 0, []) else none
   else
    bif Nat.ble 10 pc then
     bif Nat.ble 13 pc then
      bif Nat.beq pc 13 then some (.aload_n 0, 1, [], .inl 0, []) else none
     else
      bif Nat.beq pc 10 then some (.getfield 22, 3, [4, 259, 0], .inl 0, []) else none
    else
     bif Nat.beq pc 9 then some (.aload_n 0, 1, [], .inl 0, []) else none
  else
   bif Nat.ble 2 pc then
    bif Nat.ble 5 pc then
     bif Nat.ble 6 pc then
      bif Nat.beq pc 6 then some (.if_icmp .ne 32, 3, [], .inl 0, []) else none
     else
      bif Nat.beq pc 5 then some (.iconst (-1), 1, [], .inl (-1), []) else none
    else
     bif Nat.beq pc 2 then some (.invokevirtual 25, 3, [51, 2, 1, 3, 4], .inl 0, []) else none
   else
    bif Nat.ble 1 pc then
     bif Nat.beq pc 1 then some (.iload_n 1, 1, [], .inl 0, []) else none
    else
     bif Nat.beq pc 0 then some (.aload_n 0, 1, [], .inl 0, []) else none
def kX4_addLeavesOf (pc : Nat) : Option Ent := bif Nat.ble 31 pc then none else
 bif Nat.ble 14 pc then
  bif Nat.ble 20 pc then
   bif Nat.ble 24 pc then
    bif Nat.ble 27 pc then
     bif Nat.ble 30 pc then
      bif Nat.beq pc 30 then some (.return_, 1, [], .inl 0, []) else none
     else
      bif Nat.beq pc 27 then some (.goto (-25), 3, [], .inl 0, []) else none
    else
     bif Nat.beq pc 24 then some (.iinc 2 1, 3, [], .inl (1), []) else none
   else
    bif Nat.ble 21 pc then
     bif Nat.beq pc 21 then some (.invokevirtual 29, 3, [52, 2, 0, 2, 4], .inl 0, []) else none
    else
     bif Nat.beq pc 20 then some (.iaload, 1, [], .inl 0, []) else none
  else
   bif Nat.ble 16 pc then
    bif Nat.ble 19 pc then
     bif Nat.beq pc 19 then some (.iload_n 2, 1, [], .inl 0, []) else none
    else
     bif Nat.beq pc 16 then some (.getfield 15, 3, [4, 258, 2], .inl 0, []) else none
   else
    bif Nat.ble 15 pc then
     bif Nat.beq pc 15 then some (.aload_n 1, 1, [], .inl 0, []) else none
    else
     bif Nat.beq pc 14 then some (.aload_n 0, 1, [], .inl 0, []) else none
 else
  bif Nat.ble 6 pc then
   bif Nat.ble 8 pc then
    bif Nat.ble 11 pc then
     bif Nat.beq pc 11 then some (.if_icmp .ge 19, 3, [], .inl 0, []) else none
    else
     bif Nat.beq pc 8 then some (.getfield 22, 3, [4, 259, 0], .inl 0, []) else none
   else
    bif Nat.ble 7 pc then
     bif Nat.beq pc 7 then some (.aload_n 1, 1, [], .inl 0, []) else none
    else
     bif Nat.beq pc 6 then some (.iload_n 2, 1, [], .inl 0, []) else none
  else
   bif Nat.ble 2 pc then
    bif Nat.ble 3 pc then
     bif Nat.beq pc 3 then some (.ifnull 27, 3, [], .inl 0, []) else none
    else
     bif Nat.beq pc 2 then some (.aload_n 1, 1, [], .inl 0, []) else none
   else
    bif Nat.ble 1 pc then
     bif Nat.beq pc 1 then some (.istore_n 2, 1, [], .inl 0, []) else none
    else
     bif Nat.beq pc 0 then some (.iconst 0, 1, [], .inl (0), []) else none
def kX5_init (pc : Nat) : Option Ent := bif Nat.ble 45 pc then none else
 bif Nat.ble 22 pc then
  bif Nat.ble 34 pc then
   bif Nat.ble 39 pc then
    bif Nat.ble 41 pc then
     bif Nat.ble 44 pc then
      bif Nat.beq pc 44 then some (.return_, 1, [], .inl 0, []) else none
     else
      bif Nat.beq pc 41 then some (.putfield 33, 3, [5, 324, 2], .inl 0, []) else none
    else
     bif Nat.beq pc 39 then some (.aload 4, 2, [], .inl 0, []) else none
   else
    bif Nat.ble 35 pc then
     bif Nat.ble 38 pc then
      bif Nat.beq pc 38 then some (.aload_n 0, 1, [], .inl 0, []) else none
     else
      bif Nat.beq pc 35 then some (.putfield 30, 3, [5, 323, 1], .inl 0, []) else none
    else
     bif Nat.beq pc 34 then some (.lload_n 2, 1, [], .inl 0, []) else none
  else
   bif Nat.ble 27 pc then
    bif Nat.ble 30 pc then
     bif Nat.ble 33 pc then
      bif Nat.beq pc 33 then some (.aload_n 0, 1, [], .inl 0, []) else none
     else
      bif Nat.beq pc 30 then some (.putfield 29, 3, [5, 322, 0], .inl 0, []) else none
    else
     bif Nat.beq pc 27 then some (.getfield 26, 3, [8, 514, 0], .inl 0, []) else none
   else
    bif Nat.ble 25 pc then
     bif Nat.ble 26 pc then
      bif Nat.beq pc 26 then some (.aload_n 1, 1, [], .inl 0, []) else none
     else
      bif Nat.beq pc 25 then some (.aload_n 0, 1, [], .inl 0, []) else none
    else
     bif Nat.beq pc 22 then some (.putfield 25, 3, [5, 321, 0], .inl 0, []) else none
 else
  bif Nat.ble 10 pc then
   bif Nat.ble 17 pc then
    bif Nat.ble 18 pc then
     bif Nat.ble 19 pc then
      bif Nat.beq pc 19 then some (.getfield 22, 3, [8, 513, 0], .inl 0, []) else none
     else
      bif Nat.beq pc 18 then some (.aload_n 1, 1, [], .inl 0, []) else none
    else
     bif Nat.beq pc 17 then some (.aload_n 0, 1, [], .inl 0, []) else none
   else
    bif Nat.ble 11 pc then
     bif Nat.ble 14 pc then
      bif Nat.beq pc 14 then some (.putfield 21, 3, [5, 320, 1], .inl 0, []) else none
     else
      bif Nat.beq pc 11 then some (.getfield 15, 3, [8, 512, 1], .inl 0, []) else none
    else
     bif Nat.beq pc 10 then some (.aload_n 1, 1, [], .inl 0, []) else none
  else
   bif Nat.ble 5 pc then
    bif Nat.ble 6 pc then
     bif Nat.ble 9 pc then
      bif Nat.beq pc 9 then some (.aload_n 0, 1, [], .inl 0, []) else none
     else
      bif Nat.beq pc 6 then some (.putfield 9, 3, [5, 325, 0], .inl 0, []) else none
    else
     bif Nat.beq pc 5 then some (.iconst (-1), 1, [], .inl (-1), []) else none
   else
    bif Nat.ble 1 pc then
     bif Nat.ble 4 pc then
      bif Nat.beq pc 4 then some (.aload_n 0, 1, [], .inl 0, []) else none
     else
      bif Nat.beq pc 1 then some (.invokespecial 3, 3, [9000], .inl 0, []) else none
    else
     bif Nat.beq pc 0 then some (.aload_n 0, 1, [], .inl 0, []) else none
def kX5_hasNames (pc : Nat) : Option Ent := bif Nat.ble 24 pc then none else
 bif Nat.ble 13 pc then
  bif Nat.ble 19 pc then
   bif Nat.ble 22 pc then
    bif Nat.ble 23 pc then
     bif Nat.beq pc 23 then some (.ireturn, 1, [1], .inl 0, []) else none
    else
     bif Nat.beq pc 22 then some (.iconst 0, 1, [], .inl (0), []) else none
   else
    bif Nat.beq pc 19 then some (.goto 4, 3, [], .inl 0, []) else none
  else
   bif Nat.ble 15 pc then
    bif Nat.ble 18 pc then
     bif Nat.beq pc 18 then some (.iconst 1, 1, [], .inl (1), []) else none
    else
     bif Nat.beq pc 15 then some (.if_icmp .ne 7, 3, [], .inl 0, []) else none
   else
    bif Nat.beq pc 13 then some (.bipush 9, 2, [], .inl (9), []) else none
 else
  bif Nat.ble 6 pc then
   bif Nat.ble 9 pc then
    bif Nat.ble 10 pc then
     bif Nat.beq pc 10 then some (.getfield 25, 3, [5, 321, 0], .inl 0, []) else none
    else
     bif Nat.beq pc 9 then some (.aload_n 0, 1, [], .inl 0, []) else none
   else
    bif Nat.beq pc 6 then some (.if_icmp .eq 12, 3, [], .inl 0, []) else none
  else
   bif Nat.ble 1 pc then
    bif Nat.ble 4 pc then
     bif Nat.beq pc 4 then some (.bipush 8, 2, [], .inl (8), []) else none
    else
     bif Nat.beq pc 1 then some (.getfield 25, 3, [5, 321, 0], .inl 0, []) else none
   else
    bif Nat.beq pc 0 then some (.aload_n 0, 1, [], .inl 0, []) else none
def kX5_hasWord (pc : Nat) : Option Ent := bif Nat.ble 39 pc then none else
 bif Nat.ble 19 pc then
  bif Nat.ble 29 pc then
   bif Nat.ble 34 pc then
    bif Nat.ble 37 pc then
     bif Nat.ble 38 pc then
      bif Nat.beq pc 38 then some (.ireturn, 1, [1], .inl 0, []) else none
     else
      bif Nat.beq pc 37 then some (.iconst 0, 1, [], .inl (0), []) else none
    else
     bif Nat.beq pc 34 then some (.goto (-32), 3, [], .inl 0, []) else none
   else
    bif Nat.ble 30 pc then
     bif Nat.ble 31 pc then
      bif Nat.beq pc 31 then some (.iinc 3 1, 3, [], .inl (1), []) else none
     else
      bif Nat.beq pc 30 then some (.ireturn, 1, [1], .inl 0, []) else none
    else
     bif Nat.beq pc 29 then some (.iconst 1, 1, [], .inl (1), []) else none
  else
   bif Nat.ble 24 pc then
    bif Nat.ble 25 pc then
     bif Nat.ble 26 pc then
      bif Nat.beq pc 26 then some (.ifCond .ne 5, 3, [], .inl 0, []) else none
     else
      bif Nat.beq pc 25 then some (.lcmp, 1, [], .inl 0, []) else none
    else
     bif Nat.beq pc 24 then some (.lload_n 1, 1, [], .inl 0, []) else none
   else
    bif Nat.ble 22 pc then
     bif Nat.ble 23 pc then
      bif Nat.beq pc 23 then some (.laload, 1, [], .inl 0, []) else none
     else
      bif Nat.beq pc 22 then some (.iload_n 3, 1, [], .inl 0, []) else none
    else
     bif Nat.beq pc 19 then some (.getfield 33, 3, [5, 324, 2], .inl 0, []) else none
 else
  bif Nat.ble 9 pc then
   bif Nat.ble 14 pc then
    bif Nat.ble 15 pc then
     bif Nat.ble 18 pc then
      bif Nat.beq pc 18 then some (.aload_n 0, 1, [], .inl 0, []) else none
     else
      bif Nat.beq pc 15 then some (.if_icmp .ge 22, 3, [], .inl 0, []) else none
    else
     bif Nat.beq pc 14 then some (.arraylength, 1, [], .inl 0, []) else none
   else
    bif Nat.ble 10 pc then
     bif Nat.ble 11 pc then
      bif Nat.beq pc 11 then some (.getfield 33, 3, [5, 324, 2], .inl 0, []) else none
     else
      bif Nat.beq pc 10 then some (.aload_n 0, 1, [], .inl 0, []) else none
    else
     bif Nat.beq pc 9 then some (.iload_n 3, 1, [], .inl 0, []) else none
  else
   bif Nat.ble 2 pc then
    bif Nat.ble 3 pc then
     bif Nat.ble 6 pc then
      bif Nat.beq pc 6 then some (.ifCond .eq 31, 3, [], .inl 0, []) else none
     else
      bif Nat.beq pc 3 then some (.invokevirtual 37, 3, [55, 1, 1, 1, 5], .inl 0, []) else none
    else
     bif Nat.beq pc 2 then some (.aload_n 0, 1, [], .inl 0, [2]) else none
   else
    bif Nat.ble 1 pc then
     bif Nat.beq pc 1 then some (.istore_n 3, 1, [], .inl 0, []) else none
    else
     bif Nat.beq pc 0 then some (.iconst 0, 1, [], .inl (0), []) else none
def kX5_hasOrdinal (pc : Nat) : Option Ent := bif Nat.ble 61 pc then none else
 bif Nat.ble 31 pc then
  bif Nat.ble 47 pc then
   bif Nat.ble 53 pc then
    bif Nat.ble 59 pc then
     bif Nat.ble 60 pc then
      bif Nat.beq pc 60 then some (.ireturn, 1, [1], .inl 0, []) else none
     else
      bif Nat.beq pc 59 then some (.iconst 0, 1, [], .inl (0), []) else none
    else
     bif Nat.ble 56 pc then
      bif Nat.beq pc 56 then some (.goto (-53), 3, [], .inl 0, []) else none
     else
      bif Nat.beq pc 53 then some (.iinc 4 1, 3, [], .inl (1), []) else none
   else
    bif Nat.ble 51 pc then
     bif Nat.ble 52 pc then
      bif Nat.beq pc 52 then some (.ireturn, 1, [1], .inl 0, []) else none
     else
      bif Nat.beq pc 51 then some (.iconst 1, 1, [], .inl (1), []) else none
    else
     bif Nat.ble 48 pc then
      bif Nat.beq pc 48 then some (.if_icmp .gt 5, 3, [], .inl 0, []) else none
     else
      bif Nat.beq pc 47 then some (.iload_n 3, 1, [], .inl 0, []) else none
  else
   bif Nat.ble 39 pc then
    bif Nat.ble 42 pc then
     bif Nat.ble 45 pc then
      bif Nat.beq pc 45 then some (.iload 5, 2, [], .inl 0, []) else none
     else
      bif Nat.beq pc 42 then some (.if_icmp .lt 11, 3, [], .inl 0, []) else none
    else
     bif Nat.ble 41 pc then
      bif Nat.beq pc 41 then some (.iload_n 2, 1, [], .inl 0, []) else none
     else
      bif Nat.beq pc 39 then some (.iload 5, 2, [], .inl 0, []) else none
   else
    bif Nat.ble 35 pc then
     bif Nat.ble 36 pc then
      bif Nat.beq pc 36 then some (.if_icmp .eq 17, 3, [], .inl 0, []) else none
     else
      bif Nat.beq pc 35 then some (.iconst (-1), 1, [], .inl (-1), []) else none
    else
     bif Nat.ble 33 pc then
      bif Nat.beq pc 33 then some (.iload 5, 2, [], .inl 0, []) else none
     else
      bif Nat.beq pc 31 then some (.istore 5, 2, [], .inl 0, []) else none
 else
  bif Nat.ble 16 pc then
   bif Nat.ble 22 pc then
    bif Nat.ble 27 pc then
     bif Nat.ble 28 pc then
      bif Nat.beq pc 28 then some (.invokevirtual 41, 3, [47, 2, 1, 4, 3], .inl 0, []) else none
     else
      bif Nat.beq pc 27 then some (.laload, 1, [], .inl 0, []) else none
    else
     bif Nat.ble 25 pc then
      bif Nat.beq pc 25 then some (.iload 4, 2, [], .inl 0, []) else none
     else
      bif Nat.beq pc 22 then some (.getfield 33, 3, [5, 324, 2], .inl 0, []) else none
   else
    bif Nat.ble 20 pc then
     bif Nat.ble 21 pc then
      bif Nat.beq pc 21 then some (.aload_n 0, 1, [], .inl 0, []) else none
     else
      bif Nat.beq pc 20 then some (.aload_n 1, 1, [], .inl 0, []) else none
    else
     bif Nat.ble 17 pc then
      bif Nat.beq pc 17 then some (.if_icmp .ge 42, 3, [], .inl 0, []) else none
     else
      bif Nat.beq pc 16 then some (.arraylength, 1, [], .inl 0, []) else none
  else
   bif Nat.ble 7 pc then
    bif Nat.ble 12 pc then
     bif Nat.ble 13 pc then
      bif Nat.beq pc 13 then some (.getfield 33, 3, [5, 324, 2], .inl 0, []) else none
     else
      bif Nat.beq pc 12 then some (.aload_n 0, 1, [], .inl 0, []) else none
    else
     bif Nat.ble 10 pc then
      bif Nat.beq pc 10 then some (.iload 4, 2, [], .inl 0, []) else none
     else
      bif Nat.beq pc 7 then some (.ifCond .eq 52, 3, [], .inl 0, []) else none
   else
    bif Nat.ble 3 pc then
     bif Nat.ble 4 pc then
      bif Nat.beq pc 4 then some (.invokevirtual 37, 3, [55, 1, 1, 1, 5], .inl 0, []) else none
     else
      bif Nat.beq pc 3 then some (.aload_n 0, 1, [], .inl 0, [5]) else none
    else
     bif Nat.ble 1 pc then
      bif Nat.beq pc 1 then some (.istore 4, 2, [], .inl 0, []) else none
     else
      bif Nat.beq pc 0 then some (.iconst 0, 1, [], .inl (0), []) else none
def kX5_goesTo (pc : Nat) : Option Ent := bif Nat.ble 98 pc then none else
 bif Nat.ble 51 pc then
  bif Nat.ble 72 pc then
   bif Nat.ble 85 pc then
    bif Nat.ble 92 pc then
     bif Nat.ble 96 pc then
      bif Nat.ble 97 pc then
       bif Nat.beq pc 97 then some (.ireturn, 1, [1], .inl 0, []) else none
      else
       bif Nat.beq pc 96 then some (.iconst 0, 1, [], .inl (0), []) else none
     else
      bif Nat.ble 93 pc then
       bif Nat.beq pc 93 then some (.goto 4, 3, [], .inl 0, []) else none
      else
       bif Nat.beq pc 92 then some (.iconst 1, 1, [], .inl (1), []) else none
    else
     bif Nat.ble 86 pc then
      bif Nat.ble 89 pc then
       bif Nat.beq pc 89 then some (.if_icmp .ne 7, 3, [], .inl 0, []) else none
      else
       bif Nat.beq pc 86 then some (.getfield 26, 3, [8, 514, 0], .inl 0, []) else none
     else
      bif Nat.beq pc 85 then some (.aload_n 1, 1, [], .inl 0, []) else none
   else
    bif Nat.ble 78 pc then
     bif Nat.ble 81 pc then
      bif Nat.ble 82 pc then
       bif Nat.beq pc 82 then some (.getfield 29, 3, [5, 322, 0], .inl 0, []) else none
      else
       bif Nat.beq pc 81 then some (.aload_n 0, 1, [], .inl 0, []) else none
     else
      bif Nat.beq pc 78 then some (.if_icmp .eq 14, 3, [], .inl 0, []) else none
    else
     bif Nat.ble 73 pc then
      bif Nat.ble 76 pc then
       bif Nat.beq pc 76 then some (.bipush 11, 2, [], .inl (11), []) else none
      else
       bif Nat.beq pc 73 then some (.getfield 25, 3, [5, 321, 0], .inl 0, []) else none
     else
      bif Nat.beq pc 72 then some (.aload_n 0, 1, [], .inl 0, []) else none
  else
   bif Nat.ble 61 pc then
    bif Nat.ble 64 pc then
     bif Nat.ble 67 pc then
      bif Nat.ble 69 pc then
       bif Nat.beq pc 69 then some (.if_icmp .lt 23, 3, [], .inl 0, []) else none
      else
       bif Nat.beq pc 67 then some (.bipush 8, 2, [], .inl (8), []) else none
     else
      bif Nat.beq pc 64 then some (.getfield 25, 3, [5, 321, 0], .inl 0, []) else none
    else
     bif Nat.ble 62 pc then
      bif Nat.ble 63 pc then
       bif Nat.beq pc 63 then some (.aload_n 0, 1, [], .inl 0, []) else none
      else
       bif Nat.beq pc 62 then some (.ireturn, 1, [1], .inl 0, []) else none
     else
      bif Nat.beq pc 61 then some (.iconst 0, 1, [], .inl (0), []) else none
   else
    bif Nat.ble 54 pc then
     bif Nat.ble 57 pc then
      bif Nat.ble 58 pc then
       bif Nat.beq pc 58 then some (.goto 4, 3, [], .inl 0, []) else none
      else
       bif Nat.beq pc 57 then some (.iconst 1, 1, [], .inl (1), []) else none
     else
      bif Nat.beq pc 54 then some (.ifCond .eq 7, 3, [], .inl 0, []) else none
    else
     bif Nat.ble 52 pc then
      bif Nat.ble 53 pc then
       bif Nat.beq pc 53 then some (.iand, 1, [], .inl 0, []) else none
      else
       bif Nat.beq pc 52 then some (.iconst 1, 1, [], .inl (1), []) else none
     else
      bif Nat.beq pc 51 then some (.ishr, 1, [], .inl 0, []) else none
 else
  bif Nat.ble 26 pc then
   bif Nat.ble 36 pc then
    bif Nat.ble 43 pc then
     bif Nat.ble 47 pc then
      bif Nat.ble 48 pc then
       bif Nat.beq pc 48 then some (.getfield 22, 3, [8, 513, 0], .inl 0, []) else none
      else
       bif Nat.beq pc 47 then some (.aload_n 1, 1, [], .inl 0, []) else none
     else
      bif Nat.ble 46 pc then
       bif Nat.beq pc 46 then some (.iaload, 1, [], .inl 0, []) else none
      else
       bif Nat.beq pc 43 then some (.getfield 25, 3, [5, 321, 0], .inl 0, []) else none
    else
     bif Nat.ble 39 pc then
      bif Nat.ble 42 pc then
       bif Nat.beq pc 42 then some (.aload_n 0, 1, [], .inl 0, []) else none
      else
       bif Nat.beq pc 39 then some (.getstatic 47, 3, [1], .inl 0, []) else none
     else
      bif Nat.beq pc 36 then some (.ifCond .ne 27, 3, [], .inl 0, []) else none
   else
    bif Nat.ble 33 pc then
     bif Nat.ble 34 pc then
      bif Nat.ble 35 pc then
       bif Nat.beq pc 35 then some (.iload_n 2, 1, [], .inl 0, []) else none
      else
       bif Nat.beq pc 34 then some (.istore_n 2, 1, [], .inl 0, []) else none
     else
      bif Nat.beq pc 33 then some (.iconst 0, 1, [], .inl (0), []) else none
    else
     bif Nat.ble 29 pc then
      bif Nat.ble 30 pc then
       bif Nat.beq pc 30 then some (.goto 4, 3, [], .inl 0, []) else none
      else
       bif Nat.beq pc 29 then some (.iconst 1, 1, [], .inl (1), []) else none
     else
      bif Nat.beq pc 26 then some (.if_icmp .ne 7, 3, [], .inl 0, []) else none
  else
   bif Nat.ble 12 pc then
    bif Nat.ble 20 pc then
     bif Nat.ble 21 pc then
      bif Nat.ble 24 pc then
       bif Nat.beq pc 24 then some (.bipush 9, 2, [], .inl (9), []) else none
      else
       bif Nat.beq pc 21 then some (.getfield 22, 3, [8, 513, 0], .inl 0, []) else none
     else
      bif Nat.beq pc 20 then some (.aload_n 1, 1, [], .inl 0, []) else none
    else
     bif Nat.ble 15 pc then
      bif Nat.ble 17 pc then
       bif Nat.beq pc 17 then some (.if_icmp .ne 16, 3, [], .inl 0, []) else none
      else
       bif Nat.beq pc 15 then some (.bipush 8, 2, [], .inl (8), []) else none
     else
      bif Nat.beq pc 12 then some (.getfield 25, 3, [5, 321, 0], .inl 0, []) else none
   else
    bif Nat.ble 5 pc then
     bif Nat.ble 8 pc then
      bif Nat.ble 11 pc then
       bif Nat.beq pc 11 then some (.aload_n 0, 1, [], .inl 0, []) else none
      else
       bif Nat.beq pc 8 then some (.if_icmp .eq 21, 3, [], .inl 0, []) else none
     else
      bif Nat.beq pc 5 then some (.getfield 22, 3, [8, 513, 0], .inl 0, []) else none
    else
     bif Nat.ble 1 pc then
      bif Nat.ble 4 pc then
       bif Nat.beq pc 4 then some (.aload_n 1, 1, [], .inl 0, []) else none
      else
       bif Nat.beq pc 1 then some (.getfield 25, 3, [5, 321, 0], .inl 0, []) else none
     else
      bif Nat.beq pc 0 then some (.aload_n 0, 1, [], .inl 0, []) else none
def kX6_init (pc : Nat) : Option Ent := bif Nat.ble 33 pc then none else
 bif Nat.ble 17 pc then
  bif Nat.ble 24 pc then
   bif Nat.ble 28 pc then
    bif Nat.ble 29 pc then
     bif Nat.ble 32 pc then
      bif Nat.beq pc 32 then some (.return_, 1, [], .inl 0, []) else none
     else
      bif Nat.beq pc 29 then some (.putfield 25, 3, [6, 386, 2], .inl 0, []) else none
    else
     bif Nat.beq pc 28 then some (.aload_n 3, 1, [], .inl 0, []) else none
   else
    bif Nat.ble 27 pc then
     bif Nat.beq pc 27 then some (.aload_n 0, 1, [], .inl 0, []) else none
    else
     bif Nat.beq pc 24 then some (.putfield 22, 3, [6, 385, 0], .inl 0, []) else none
  else
   bif Nat.ble 19 pc then
    bif Nat.ble 22 pc then
     bif Nat.ble 23 pc then
      bif Nat.beq pc 23 then some (.iload_n 2, 1, [], .inl 0, []) else none
     else
      bif Nat.beq pc 22 then some (.aload_n 0, 1, [], .inl 0, []) else none
    else
     bif Nat.beq pc 19 then some (.putfield 19, 3, [6, 384, 0], .inl 0, []) else none
   else
    bif Nat.ble 18 pc then
     bif Nat.beq pc 18 then some (.iload_n 1, 1, [], .inl 0, []) else none
    else
     bif Nat.beq pc 17 then some (.aload_n 0, 1, [], .inl 0, []) else none
 else
  bif Nat.ble 7 pc then
   bif Nat.ble 12 pc then
    bif Nat.ble 13 pc then
     bif Nat.ble 14 pc then
      bif Nat.beq pc 14 then some (.putfield 15, 3, [6, 389, 0], .inl 0, []) else none
     else
      bif Nat.beq pc 13 then some (.iconst (-1), 1, [], .inl (-1), []) else none
    else
     bif Nat.beq pc 12 then some (.aload_n 0, 1, [], .inl 0, []) else none
   else
    bif Nat.ble 9 pc then
     bif Nat.beq pc 9 then some (.putfield 9, 3, [6, 387, 2], .inl 0, []) else none
    else
     bif Nat.beq pc 7 then some (.newarray .long, 2, [21], .inl 0, []) else none
  else
   bif Nat.ble 4 pc then
    bif Nat.ble 5 pc then
     bif Nat.beq pc 5 then some (.bipush 6, 2, [], .inl (6), []) else none
    else
     bif Nat.beq pc 4 then some (.aload_n 0, 1, [], .inl 0, []) else none
   else
    bif Nat.ble 1 pc then
     bif Nat.beq pc 1 then some (.invokespecial 3, 3, [9000], .inl 0, []) else none
    else
     bif Nat.beq pc 0 then some (.aload_n 0, 1, [], .inl 0, []) else none
def kX6_keptAs (pc : Nat) : Option Ent := bif Nat.ble 40 pc then none else
 bif Nat.ble 20 pc then
  bif Nat.ble 30 pc then
   bif Nat.ble 35 pc then
    bif Nat.ble 38 pc then
     bif Nat.ble 39 pc then
      bif Nat.beq pc 39 then some (.areturn, 1, [], .inl 0, []) else none
     else
      bif Nat.beq pc 38 then some (.aconst_null, 1, [], .inl 0, []) else none
    else
     bif Nat.beq pc 35 then some (.goto (-33), 3, [], .inl 0, []) else none
   else
    bif Nat.ble 31 pc then
     bif Nat.ble 32 pc then
      bif Nat.beq pc 32 then some (.iinc 3 1, 3, [], .inl (1), []) else none
     else
      bif Nat.beq pc 31 then some (.areturn, 1, [], .inl 0, []) else none
    else
     bif Nat.beq pc 30 then some (.aaload, 1, [], .inl 0, []) else none
  else
   bif Nat.ble 25 pc then
    bif Nat.ble 26 pc then
     bif Nat.ble 29 pc then
      bif Nat.beq pc 29 then some (.iload_n 3, 1, [], .inl 0, []) else none
     else
      bif Nat.beq pc 26 then some (.getfield 25, 3, [6, 386, 2], .inl 0, []) else none
    else
     bif Nat.beq pc 25 then some (.aload_n 0, 1, [], .inl 0, []) else none
   else
    bif Nat.ble 21 pc then
     bif Nat.ble 22 pc then
      bif Nat.beq pc 22 then some (.ifCond .ne 10, 3, [], .inl 0, []) else none
     else
      bif Nat.beq pc 21 then some (.lcmp, 1, [], .inl 0, []) else none
    else
     bif Nat.beq pc 20 then some (.lload_n 1, 1, [], .inl 0, []) else none
 else
  bif Nat.ble 8 pc then
   bif Nat.ble 15 pc then
    bif Nat.ble 16 pc then
     bif Nat.ble 17 pc then
      bif Nat.beq pc 17 then some (.getfield 29, 3, [5, 320, 1], .inl 0, []) else none
     else
      bif Nat.beq pc 16 then some (.aaload, 1, [], .inl 0, []) else none
    else
     bif Nat.beq pc 15 then some (.iload_n 3, 1, [], .inl 0, []) else none
   else
    bif Nat.ble 11 pc then
     bif Nat.ble 12 pc then
      bif Nat.beq pc 12 then some (.getfield 25, 3, [6, 386, 2], .inl 0, []) else none
     else
      bif Nat.beq pc 11 then some (.aload_n 0, 1, [], .inl 0, []) else none
    else
     bif Nat.beq pc 8 then some (.if_icmp .ge 30, 3, [], .inl 0, []) else none
  else
   bif Nat.ble 3 pc then
    bif Nat.ble 4 pc then
     bif Nat.ble 7 pc then
      bif Nat.beq pc 7 then some (.arraylength, 1, [], .inl 0, []) else none
     else
      bif Nat.beq pc 4 then some (.getfield 25, 3, [6, 386, 2], .inl 0, []) else none
    else
     bif Nat.beq pc 3 then some (.aload_n 0, 1, [], .inl 0, []) else none
   else
    bif Nat.ble 1 pc then
     bif Nat.ble 2 pc then
      bif Nat.beq pc 2 then some (.iload_n 3, 1, [], .inl 0, [2]) else none
     else
      bif Nat.beq pc 1 then some (.istore_n 3, 1, [], .inl 0, []) else none
    else
     bif Nat.beq pc 0 then some (.iconst 0, 1, [], .inl (0), []) else none
def kX6_unload (pc : Nat) : Option Ent := bif Nat.ble 33 pc then none else
 bif Nat.ble 13 pc then
  bif Nat.ble 22 pc then
   bif Nat.ble 26 pc then
    bif Nat.ble 29 pc then
     bif Nat.ble 32 pc then
      bif Nat.beq pc 32 then some (.return_, 1, [], .inl 0, []) else none
     else
      bif Nat.beq pc 29 then some (.goto (-22), 3, [], .inl 0, []) else none
    else
     bif Nat.beq pc 26 then some (.iinc 1 1, 3, [], .inl (1), []) else none
   else
    bif Nat.ble 23 pc then
     bif Nat.beq pc 23 then some (.putfield 35, 3, [5, 325, 0], .inl 0, []) else none
    else
     bif Nat.beq pc 22 then some (.iconst (-1), 1, [], .inl (-1), []) else none
  else
   bif Nat.ble 17 pc then
    bif Nat.ble 20 pc then
     bif Nat.ble 21 pc then
      bif Nat.beq pc 21 then some (.aaload, 1, [], .inl 0, []) else none
     else
      bif Nat.beq pc 20 then some (.iload_n 1, 1, [], .inl 0, []) else none
    else
     bif Nat.beq pc 17 then some (.getfield 25, 3, [6, 386, 2], .inl 0, []) else none
   else
    bif Nat.ble 16 pc then
     bif Nat.beq pc 16 then some (.aload_n 0, 1, [], .inl 0, []) else none
    else
     bif Nat.beq pc 13 then some (.if_icmp .ge 19, 3, [], .inl 0, []) else none
 else
  bif Nat.ble 6 pc then
   bif Nat.ble 8 pc then
    bif Nat.ble 9 pc then
     bif Nat.ble 12 pc then
      bif Nat.beq pc 12 then some (.arraylength, 1, [], .inl 0, []) else none
     else
      bif Nat.beq pc 9 then some (.getfield 25, 3, [6, 386, 2], .inl 0, []) else none
    else
     bif Nat.beq pc 8 then some (.aload_n 0, 1, [], .inl 0, []) else none
   else
    bif Nat.ble 7 pc then
     bif Nat.beq pc 7 then some (.iload_n 1, 1, [], .inl 0, []) else none
    else
     bif Nat.beq pc 6 then some (.istore_n 1, 1, [], .inl 0, []) else none
  else
   bif Nat.ble 2 pc then
    bif Nat.ble 5 pc then
     bif Nat.beq pc 5 then some (.iconst 0, 1, [], .inl (0), []) else none
    else
     bif Nat.beq pc 2 then some (.putfield 15, 3, [6, 389, 0], .inl 0, []) else none
   else
    bif Nat.ble 1 pc then
     bif Nat.beq pc 1 then some (.iconst (-1), 1, [], .inl (-1), []) else none
    else
     bif Nat.beq pc 0 then some (.aload_n 0, 1, [], .inl 0, []) else none
def kX7_init (pc : Nat) : Option Ent := bif Nat.ble 13 pc then none else
 bif Nat.ble 5 pc then
  bif Nat.ble 9 pc then
   bif Nat.ble 12 pc then
    bif Nat.beq pc 12 then some (.return_, 1, [], .inl 0, []) else none
   else
    bif Nat.beq pc 9 then some (.putfield 9, 3, [7, 449, 2], .inl 0, []) else none
  else
   bif Nat.ble 7 pc then
    bif Nat.beq pc 7 then some (.newarray .long, 2, [21], .inl 0, []) else none
   else
    bif Nat.beq pc 5 then some (.bipush 6, 2, [], .inl (6), []) else none
 else
  bif Nat.ble 1 pc then
   bif Nat.ble 4 pc then
    bif Nat.beq pc 4 then some (.aload_n 0, 1, [], .inl 0, []) else none
   else
    bif Nat.beq pc 1 then some (.invokespecial 3, 3, [9000], .inl 0, []) else none
  else
   bif Nat.beq pc 0 then some (.aload_n 0, 1, [], .inl 0, []) else none
def kX8_init (pc : Nat) : Option Ent := bif Nat.ble 53 pc then none else
 bif Nat.ble 22 pc then
  bif Nat.ble 37 pc then
   bif Nat.ble 43 pc then
    bif Nat.ble 49 pc then
     bif Nat.ble 52 pc then
      bif Nat.beq pc 52 then some (.return_, 1, [], .inl 0, []) else none
     else
      bif Nat.beq pc 49 then some (.putfield 30, 3, [8, 515, 1], .inl 0, []) else none
    else
     bif Nat.ble 46 pc then
      bif Nat.beq pc 46 then some (.ldc2_w 28, 3, [], .inr (.inl (-1)), []) else none
     else
      bif Nat.beq pc 43 then some (.goto 6, 3, [], .inl 0, []) else none
   else
    bif Nat.ble 39 pc then
     bif Nat.ble 42 pc then
      bif Nat.beq pc 42 then some (.lconst 0, 1, [], .inr (.inl (0)), []) else none
     else
      bif Nat.beq pc 39 then some (.if_icmp .ne 7, 3, [], .inl 0, []) else none
    else
     bif Nat.beq pc 37 then some (.bipush 9, 2, [], .inl (9), []) else none
  else
   bif Nat.ble 28 pc then
    bif Nat.ble 33 pc then
     bif Nat.ble 36 pc then
      bif Nat.beq pc 36 then some (.iload_n 3, 1, [], .inl 0, []) else none
     else
      bif Nat.beq pc 33 then some (.goto 16, 3, [], .inl 0, []) else none
    else
     bif Nat.ble 30 pc then
      bif Nat.beq pc 30 then some (.invokestatic 22, 3, [31, 2, 2, 3, 100], .inl 0, []) else none
     else
      bif Nat.beq pc 28 then some (.lload 5, 2, [], .inl 0, []) else none
   else
    bif Nat.ble 24 pc then
     bif Nat.ble 27 pc then
      bif Nat.beq pc 27 then some (.iload_n 3, 1, [], .inl 0, []) else none
     else
      bif Nat.beq pc 24 then some (.if_icmp .gt 12, 3, [], .inl 0, []) else none
    else
     bif Nat.beq pc 22 then some (.bipush 7, 2, [], .inl (7), []) else none
 else
  bif Nat.ble 10 pc then
   bif Nat.ble 15 pc then
    bif Nat.ble 20 pc then
     bif Nat.ble 21 pc then
      bif Nat.beq pc 21 then some (.iload_n 3, 1, [], .inl 0, []) else none
     else
      bif Nat.beq pc 20 then some (.aload_n 0, 1, [], .inl 0, []) else none
    else
     bif Nat.ble 17 pc then
      bif Nat.beq pc 17 then some (.putfield 19, 3, [8, 514, 0], .inl 0, []) else none
     else
      bif Nat.beq pc 15 then some (.iload 4, 2, [], .inl 0, []) else none
   else
    bif Nat.ble 11 pc then
     bif Nat.ble 14 pc then
      bif Nat.beq pc 14 then some (.aload_n 0, 1, [], .inl 0, []) else none
     else
      bif Nat.beq pc 11 then some (.putfield 15, 3, [8, 513, 0], .inl 0, []) else none
    else
     bif Nat.beq pc 10 then some (.iload_n 3, 1, [], .inl 0, []) else none
  else
   bif Nat.ble 5 pc then
    bif Nat.ble 6 pc then
     bif Nat.ble 9 pc then
      bif Nat.beq pc 9 then some (.aload_n 0, 1, [], .inl 0, []) else none
     else
      bif Nat.beq pc 6 then some (.putfield 9, 3, [8, 512, 1], .inl 0, []) else none
    else
     bif Nat.beq pc 5 then some (.lload_n 1, 1, [], .inl 0, []) else none
   else
    bif Nat.ble 1 pc then
     bif Nat.ble 4 pc then
      bif Nat.beq pc 4 then some (.aload_n 0, 1, [], .inl 0, []) else none
     else
      bif Nat.beq pc 1 then some (.invokespecial 3, 3, [9000], .inl 0, []) else none
    else
     bif Nat.beq pc 0 then some (.aload_n 0, 1, [], .inl 0, []) else none
def kX9_init (pc : Nat) : Option Ent := bif Nat.ble 27 pc then none else
 bif Nat.ble 12 pc then
  bif Nat.ble 19 pc then
   bif Nat.ble 23 pc then
    bif Nat.ble 26 pc then
     bif Nat.beq pc 26 then some (.return_, 1, [], .inl 0, []) else none
    else
     bif Nat.beq pc 23 then some (.putfield 16, 3, [9, 577, 2], .inl 0, []) else none
   else
    bif Nat.ble 20 pc then
     bif Nat.beq pc 20 then some (.invokespecial 9, 3, [11, 1, 0, 1, 0], .inl 0, []) else none
    else
     bif Nat.beq pc 19 then some (.dup, 1, [], .inl 0, []) else none
  else
   bif Nat.ble 15 pc then
    bif Nat.ble 16 pc then
     bif Nat.beq pc 16 then some (.new 7, 3, [0, 3], .inl 0, []) else none
    else
     bif Nat.beq pc 15 then some (.aload_n 0, 1, [], .inl 0, []) else none
   else
    bif Nat.beq pc 12 then some (.putfield 10, 3, [9, 576, 2], .inl 0, []) else none
 else
  bif Nat.ble 5 pc then
   bif Nat.ble 8 pc then
    bif Nat.ble 9 pc then
     bif Nat.beq pc 9 then some (.invokespecial 9, 3, [11, 1, 0, 1, 0], .inl 0, []) else none
    else
     bif Nat.beq pc 8 then some (.dup, 1, [], .inl 0, []) else none
   else
    bif Nat.beq pc 5 then some (.new 7, 3, [0, 3], .inl 0, []) else none
  else
   bif Nat.ble 1 pc then
    bif Nat.ble 4 pc then
     bif Nat.beq pc 4 then some (.aload_n 0, 1, [], .inl 0, []) else none
    else
     bif Nat.beq pc 1 then some (.invokespecial 1, 3, [9000], .inl 0, []) else none
   else
    bif Nat.beq pc 0 then some (.aload_n 0, 1, [], .inl 0, []) else none
def kX9_partAt (pc : Nat) : Option Ent := bif Nat.ble 31 pc then none else
 bif Nat.ble 15 pc then
  bif Nat.ble 23 pc then
   bif Nat.ble 29 pc then
    bif Nat.ble 30 pc then
     bif Nat.beq pc 30 then some (.areturn, 1, [], .inl 0, []) else none
    else
     bif Nat.beq pc 29 then some (.aconst_null, 1, [], .inl 0, []) else none
   else
    bif Nat.ble 26 pc then
     bif Nat.beq pc 26 then some (.goto 4, 3, [], .inl 0, []) else none
    else
     bif Nat.beq pc 23 then some (.checkcast 27, 3, [8], .inl 0, []) else none
  else
   bif Nat.ble 19 pc then
    bif Nat.ble 20 pc then
     bif Nat.beq pc 20 then some (.invokevirtual 23, 3, [16, 2, 3, 2, 0], .inl 0, []) else none
    else
     bif Nat.beq pc 19 then some (.iload_n 1, 1, [], .inl 0, []) else none
   else
    bif Nat.ble 16 pc then
     bif Nat.beq pc 16 then some (.getfield 10, 3, [9, 576, 2], .inl 0, []) else none
    else
     bif Nat.beq pc 15 then some (.aload_n 0, 1, [], .inl 0, []) else none
 else
  bif Nat.ble 5 pc then
   bif Nat.ble 9 pc then
    bif Nat.ble 12 pc then
     bif Nat.beq pc 12 then some (.if_icmp .ge 17, 3, [], .inl 0, []) else none
    else
     bif Nat.beq pc 9 then some (.invokevirtual 19, 3, [14, 1, 1, 1, 0], .inl 0, []) else none
   else
    bif Nat.ble 6 pc then
     bif Nat.beq pc 6 then some (.getfield 10, 3, [9, 576, 2], .inl 0, []) else none
    else
     bif Nat.beq pc 5 then some (.aload_n 0, 1, [], .inl 0, []) else none
  else
   bif Nat.ble 1 pc then
    bif Nat.ble 4 pc then
     bif Nat.beq pc 4 then some (.iload_n 1, 1, [], .inl 0, []) else none
    else
     bif Nat.beq pc 1 then some (.ifCond .lt 28, 3, [], .inl 0, []) else none
   else
    bif Nat.beq pc 0 then some (.iload_n 1, 1, [], .inl 0, []) else none
def kX9_hasPart (pc : Nat) : Option Ent := bif Nat.ble 42 pc then none else
 bif Nat.ble 21 pc then
  bif Nat.ble 32 pc then
   bif Nat.ble 37 pc then
    bif Nat.ble 40 pc then
     bif Nat.ble 41 pc then
      bif Nat.beq pc 41 then some (.ireturn, 1, [1], .inl 0, []) else none
     else
      bif Nat.beq pc 40 then some (.iconst 0, 1, [], .inl (0), []) else none
    else
     bif Nat.beq pc 37 then some (.goto (-35), 3, [], .inl 0, []) else none
   else
    bif Nat.ble 33 pc then
     bif Nat.ble 34 pc then
      bif Nat.beq pc 34 then some (.iinc 3 1, 3, [], .inl (1), []) else none
     else
      bif Nat.beq pc 33 then some (.ireturn, 1, [1], .inl 0, []) else none
    else
     bif Nat.beq pc 32 then some (.iconst 1, 1, [], .inl (1), []) else none
  else
   bif Nat.ble 27 pc then
    bif Nat.ble 28 pc then
     bif Nat.ble 29 pc then
      bif Nat.beq pc 29 then some (.ifCond .ne 5, 3, [], .inl 0, []) else none
     else
      bif Nat.beq pc 28 then some (.lcmp, 1, [], .inl 0, []) else none
    else
     bif Nat.beq pc 27 then some (.lload_n 1, 1, [], .inl 0, []) else none
   else
    bif Nat.ble 24 pc then
     bif Nat.beq pc 24 then some (.getfield 29, 3, [8, 512, 1], .inl 0, []) else none
    else
     bif Nat.beq pc 21 then some (.checkcast 27, 3, [8], .inl 0, []) else none
 else
  bif Nat.ble 7 pc then
   bif Nat.ble 14 pc then
    bif Nat.ble 17 pc then
     bif Nat.ble 18 pc then
      bif Nat.beq pc 18 then some (.invokevirtual 23, 3, [16, 2, 3, 2, 0], .inl 0, []) else none
     else
      bif Nat.beq pc 17 then some (.iload_n 3, 1, [], .inl 0, []) else none
    else
     bif Nat.beq pc 14 then some (.getfield 10, 3, [9, 576, 2], .inl 0, []) else none
   else
    bif Nat.ble 10 pc then
     bif Nat.ble 13 pc then
      bif Nat.beq pc 13 then some (.aload_n 0, 1, [], .inl 0, []) else none
     else
      bif Nat.beq pc 10 then some (.if_icmp .ge 30, 3, [], .inl 0, []) else none
    else
     bif Nat.beq pc 7 then some (.invokevirtual 19, 3, [14, 1, 1, 1, 0], .inl 0, []) else none
  else
   bif Nat.ble 2 pc then
    bif Nat.ble 3 pc then
     bif Nat.ble 4 pc then
      bif Nat.beq pc 4 then some (.getfield 10, 3, [9, 576, 2], .inl 0, []) else none
     else
      bif Nat.beq pc 3 then some (.aload_n 0, 1, [], .inl 0, []) else none
    else
     bif Nat.beq pc 2 then some (.iload_n 3, 1, [], .inl 0, [2]) else none
   else
    bif Nat.ble 1 pc then
     bif Nat.beq pc 1 then some (.istore_n 3, 1, [], .inl 0, []) else none
    else
     bif Nat.beq pc 0 then some (.iconst 0, 1, [], .inl (0), []) else none
def kX9_dropChecks (pc : Nat) : Option Ent := bif Nat.ble 48 pc then none else
 bif Nat.ble 22 pc then
  bif Nat.ble 36 pc then
   bif Nat.ble 41 pc then
    bif Nat.ble 44 pc then
     bif Nat.ble 47 pc then
      bif Nat.beq pc 47 then some (.return_, 1, [], .inl 0, []) else none
     else
      bif Nat.beq pc 44 then some (.goto (-34), 3, [], .inl 0, []) else none
    else
     bif Nat.beq pc 41 then some (.iinc 2 (-1), 3, [], .inl (-1), []) else none
   else
    bif Nat.ble 37 pc then
     bif Nat.ble 40 pc then
      bif Nat.beq pc 40 then some (.pop, 1, [], .inl 0, []) else none
     else
      bif Nat.beq pc 37 then some (.invokevirtual 39, 3, [20, 2, 3, 4, 0], .inl 0, []) else none
    else
     bif Nat.beq pc 36 then some (.iload_n 2, 1, [], .inl 0, []) else none
  else
   bif Nat.ble 29 pc then
    bif Nat.ble 32 pc then
     bif Nat.ble 33 pc then
      bif Nat.beq pc 33 then some (.getfield 16, 3, [9, 577, 2], .inl 0, []) else none
     else
      bif Nat.beq pc 32 then some (.aload_n 0, 1, [], .inl 0, []) else none
    else
     bif Nat.beq pc 29 then some (.if_icmp .ne 12, 3, [], .inl 0, []) else none
   else
    bif Nat.ble 25 pc then
     bif Nat.ble 28 pc then
      bif Nat.beq pc 28 then some (.iload_n 1, 1, [], .inl 0, []) else none
     else
      bif Nat.beq pc 25 then some (.getfield 35, 3, [1, 64, 0], .inl 0, []) else none
    else
     bif Nat.beq pc 22 then some (.checkcast 33, 3, [1], .inl 0, []) else none
 else
  bif Nat.ble 10 pc then
   bif Nat.ble 15 pc then
    bif Nat.ble 18 pc then
     bif Nat.ble 19 pc then
      bif Nat.beq pc 19 then some (.invokevirtual 23, 3, [16, 2, 3, 2, 0], .inl 0, []) else none
     else
      bif Nat.beq pc 18 then some (.iload_n 2, 1, [], .inl 0, []) else none
    else
     bif Nat.beq pc 15 then some (.getfield 16, 3, [9, 577, 2], .inl 0, []) else none
   else
    bif Nat.ble 11 pc then
     bif Nat.ble 14 pc then
      bif Nat.beq pc 14 then some (.aload_n 0, 1, [], .inl 0, []) else none
     else
      bif Nat.beq pc 11 then some (.ifCond .lt 36, 3, [], .inl 0, []) else none
    else
     bif Nat.beq pc 10 then some (.iload_n 2, 1, [], .inl 0, []) else none
  else
   bif Nat.ble 7 pc then
    bif Nat.ble 8 pc then
     bif Nat.ble 9 pc then
      bif Nat.beq pc 9 then some (.istore_n 2, 1, [], .inl 0, []) else none
     else
      bif Nat.beq pc 8 then some (.isub, 1, [], .inl 0, []) else none
    else
     bif Nat.beq pc 7 then some (.iconst 1, 1, [], .inl (1), []) else none
   else
    bif Nat.ble 1 pc then
     bif Nat.ble 4 pc then
      bif Nat.beq pc 4 then some (.invokevirtual 19, 3, [14, 1, 1, 1, 0], .inl 0, []) else none
     else
      bif Nat.beq pc 1 then some (.getfield 16, 3, [9, 577, 2], .inl 0, []) else none
    else
     bif Nat.beq pc 0 then some (.aload_n 0, 1, [], .inl 0, []) else none
def kX9_moveChecks (pc : Nat) : Option Ent := bif Nat.ble 58 pc then none else
 bif Nat.ble 28 pc then
  bif Nat.ble 43 pc then
   bif Nat.ble 48 pc then
    bif Nat.ble 54 pc then
     bif Nat.ble 57 pc then
      bif Nat.beq pc 57 then some (.return_, 1, [], .inl 0, []) else none
     else
      bif Nat.beq pc 54 then some (.goto (-52), 3, [], .inl 0, []) else none
    else
     bif Nat.ble 51 pc then
      bif Nat.beq pc 51 then some (.iinc 2 1, 3, [], .inl (1), []) else none
     else
      bif Nat.beq pc 48 then some (.putfield 35, 3, [1, 64, 0], .inl 0, []) else none
   else
    bif Nat.ble 46 pc then
     bif Nat.ble 47 pc then
      bif Nat.beq pc 47 then some (.isub, 1, [], .inl 0, []) else none
     else
      bif Nat.beq pc 46 then some (.iconst 1, 1, [], .inl (1), []) else none
    else
     bif Nat.beq pc 43 then some (.getfield 35, 3, [1, 64, 0], .inl 0, []) else none
  else
   bif Nat.ble 35 pc then
    bif Nat.ble 39 pc then
     bif Nat.ble 42 pc then
      bif Nat.beq pc 42 then some (.dup, 1, [], .inl 0, []) else none
     else
      bif Nat.beq pc 39 then some (.checkcast 33, 3, [1], .inl 0, []) else none
    else
     bif Nat.ble 36 pc then
      bif Nat.beq pc 36 then some (.invokevirtual 23, 3, [16, 2, 3, 2, 0], .inl 0, []) else none
     else
      bif Nat.beq pc 35 then some (.iload_n 2, 1, [], .inl 0, []) else none
   else
    bif Nat.ble 31 pc then
     bif Nat.ble 32 pc then
      bif Nat.beq pc 32 then some (.getfield 16, 3, [9, 577, 2], .inl 0, []) else none
     else
      bif Nat.beq pc 31 then some (.aload_n 0, 1, [], .inl 0, []) else none
    else
     bif Nat.beq pc 28 then some (.if_icmp .le 23, 3, [], .inl 0, []) else none
 else
  bif Nat.ble 13 pc then
   bif Nat.ble 18 pc then
    bif Nat.ble 24 pc then
     bif Nat.ble 27 pc then
      bif Nat.beq pc 27 then some (.iload_n 1, 1, [], .inl 0, []) else none
     else
      bif Nat.beq pc 24 then some (.getfield 35, 3, [1, 64, 0], .inl 0, []) else none
    else
     bif Nat.ble 21 pc then
      bif Nat.beq pc 21 then some (.checkcast 33, 3, [1], .inl 0, []) else none
     else
      bif Nat.beq pc 18 then some (.invokevirtual 23, 3, [16, 2, 3, 2, 0], .inl 0, []) else none
   else
    bif Nat.ble 14 pc then
     bif Nat.ble 17 pc then
      bif Nat.beq pc 17 then some (.iload_n 2, 1, [], .inl 0, []) else none
     else
      bif Nat.beq pc 14 then some (.getfield 16, 3, [9, 577, 2], .inl 0, []) else none
    else
     bif Nat.beq pc 13 then some (.aload_n 0, 1, [], .inl 0, []) else none
  else
   bif Nat.ble 3 pc then
    bif Nat.ble 7 pc then
     bif Nat.ble 10 pc then
      bif Nat.beq pc 10 then some (.if_icmp .ge 47, 3, [], .inl 0, []) else none
     else
      bif Nat.beq pc 7 then some (.invokevirtual 19, 3, [14, 1, 1, 1, 0], .inl 0, []) else none
    else
     bif Nat.ble 4 pc then
      bif Nat.beq pc 4 then some (.getfield 16, 3, [9, 577, 2], .inl 0, []) else none
     else
      bif Nat.beq pc 3 then some (.aload_n 0, 1, [], .inl 0, []) else none
   else
    bif Nat.ble 1 pc then
     bif Nat.ble 2 pc then
      bif Nat.beq pc 2 then some (.iload_n 2, 1, [], .inl 0, []) else none
     else
      bif Nat.beq pc 1 then some (.istore_n 2, 1, [], .inl 0, []) else none
    else
     bif Nat.beq pc 0 then some (.iconst 0, 1, [], .inl (0), []) else none
def kX10_init (pc : Nat) : Option Ent := bif Nat.ble 13 pc then none else
 bif Nat.ble 5 pc then
  bif Nat.ble 9 pc then
   bif Nat.ble 12 pc then
    bif Nat.beq pc 12 then some (.return_, 1, [], .inl 0, []) else none
   else
    bif Nat.beq pc 9 then some (.putfield 9, 3, [10, 642, 2], .inl 0, []) else none
  else
   bif Nat.ble 7 pc then
    bif Nat.beq pc 7 then some (.newarray .long, 2, [21], .inl 0, []) else none
   else
    bif Nat.beq pc 5 then some (.bipush 16, 2, [], .inl (16), []) else none
 else
  bif Nat.ble 1 pc then
   bif Nat.ble 4 pc then
    bif Nat.beq pc 4 then some (.aload_n 0, 1, [], .inl 0, []) else none
   else
    bif Nat.beq pc 1 then some (.invokespecial 3, 3, [9000], .inl 0, []) else none
  else
   bif Nat.beq pc 0 then some (.aload_n 0, 1, [], .inl 0, []) else none
def kX10_reuse (pc : Nat) : Option Ent := bif Nat.ble 19 pc then none else
 bif Nat.ble 7 pc then
  bif Nat.ble 14 pc then
   bif Nat.ble 15 pc then
    bif Nat.ble 18 pc then
     bif Nat.beq pc 18 then some (.return_, 1, [], .inl 0, []) else none
    else
     bif Nat.beq pc 15 then some (.invokestatic 22, 3, [22, 2, 0, 5, 100], .inl 0, []) else none
   else
    bif Nat.beq pc 14 then some (.lconst 0, 1, [], .inr (.inl (0)), []) else none
  else
   bif Nat.ble 10 pc then
    bif Nat.ble 11 pc then
     bif Nat.beq pc 11 then some (.getfield 9, 3, [10, 642, 2], .inl 0, []) else none
    else
     bif Nat.beq pc 10 then some (.aload_n 0, 1, [], .inl 0, []) else none
   else
    bif Nat.beq pc 7 then some (.putfield 19, 3, [10, 641, 0], .inl 0, []) else none
 else
  bif Nat.ble 2 pc then
   bif Nat.ble 5 pc then
    bif Nat.ble 6 pc then
     bif Nat.beq pc 6 then some (.iload_n 2, 1, [], .inl 0, []) else none
    else
     bif Nat.beq pc 5 then some (.aload_n 0, 1, [], .inl 0, []) else none
   else
    bif Nat.beq pc 2 then some (.putfield 15, 3, [10, 640, 0], .inl 0, []) else none
  else
   bif Nat.ble 1 pc then
    bif Nat.beq pc 1 then some (.iload_n 1, 1, [], .inl 0, []) else none
   else
    bif Nat.beq pc 0 then some (.aload_n 0, 1, [], .inl 0, []) else none
def kX10_hasItem (pc : Nat) : Option Ent := bif Nat.ble 22 pc then none else
 bif Nat.ble 11 pc then
  bif Nat.ble 16 pc then
   bif Nat.ble 20 pc then
    bif Nat.ble 21 pc then
     bif Nat.beq pc 21 then some (.ireturn, 1, [1], .inl 0, []) else none
    else
     bif Nat.beq pc 20 then some (.iconst 0, 1, [], .inl (0), []) else none
   else
    bif Nat.ble 17 pc then
     bif Nat.beq pc 17 then some (.goto 4, 3, [], .inl 0, []) else none
    else
     bif Nat.beq pc 16 then some (.iconst 1, 1, [], .inl (1), []) else none
  else
   bif Nat.ble 12 pc then
    bif Nat.ble 13 pc then
     bif Nat.beq pc 13 then some (.ifCond .ge 7, 3, [], .inl 0, []) else none
    else
     bif Nat.beq pc 12 then some (.lcmp, 1, [], .inl 0, []) else none
   else
    bif Nat.beq pc 11 then some (.i2l, 1, [], .inl 0, []) else none
 else
  bif Nat.ble 3 pc then
   bif Nat.ble 7 pc then
    bif Nat.ble 8 pc then
     bif Nat.beq pc 8 then some (.getfield 19, 3, [10, 641, 0], .inl 0, []) else none
    else
     bif Nat.beq pc 7 then some (.aload_n 0, 1, [], .inl 0, []) else none
   else
    bif Nat.ble 6 pc then
     bif Nat.beq pc 6 then some (.lload_n 1, 1, [], .inl 0, []) else none
    else
     bif Nat.beq pc 3 then some (.ifCond .lt 17, 3, [], .inl 0, []) else none
  else
   bif Nat.ble 1 pc then
    bif Nat.ble 2 pc then
     bif Nat.beq pc 2 then some (.lcmp, 1, [], .inl 0, []) else none
    else
     bif Nat.beq pc 1 then some (.lconst 0, 1, [], .inr (.inl (0)), []) else none
   else
    bif Nat.beq pc 0 then some (.lload_n 1, 1, [], .inl 0, []) else none
def kX11_init (pc : Nat) : Option Ent := bif Nat.ble 130 pc then none else
 bif Nat.ble 76 pc then
  bif Nat.ble 99 pc then
   bif Nat.ble 110 pc then
    bif Nat.ble 121 pc then
     bif Nat.ble 124 pc then
      bif Nat.ble 126 pc then
       bif Nat.ble 129 pc then
        bif Nat.beq pc 129 then some (.return_, 1, [], .inl 0, []) else none
       else
        bif Nat.beq pc 126 then some (.putfield 45, 3, [11, 720, 2], .inl 0, []) else none
      else
       bif Nat.beq pc 124 then some (.newarray .int, 2, [20], .inl 0, []) else none
     else
      bif Nat.ble 122 pc then
       bif Nat.beq pc 122 then some (.bipush 64, 2, [], .inl (64), []) else none
      else
       bif Nat.beq pc 121 then some (.aload_n 0, 1, [], .inl 0, []) else none
    else
     bif Nat.ble 114 pc then
      bif Nat.ble 115 pc then
       bif Nat.ble 118 pc then
        bif Nat.beq pc 118 then some (.putfield 42, 3, [11, 719, 2], .inl 0, []) else none
       else
        bif Nat.beq pc 115 then some (.invokespecial 9, 3, [11, 1, 0, 1, 0], .inl 0, []) else none
      else
       bif Nat.beq pc 114 then some (.dup, 1, [], .inl 0, []) else none
     else
      bif Nat.ble 111 pc then
       bif Nat.beq pc 111 then some (.new 7, 3, [0, 3], .inl 0, []) else none
      else
       bif Nat.beq pc 110 then some (.aload_n 0, 1, [], .inl 0, []) else none
   else
    bif Nat.ble 103 pc then
     bif Nat.ble 105 pc then
      bif Nat.ble 106 pc then
       bif Nat.ble 107 pc then
        bif Nat.beq pc 107 then some (.putfield 39, 3, [11, 718, 2], .inl 0, []) else none
       else
        bif Nat.beq pc 106 then some (.iastore, 1, [], .inl 0, []) else none
      else
       bif Nat.beq pc 105 then some (.iconst (-1), 1, [], .inl (-1), []) else none
     else
      bif Nat.ble 104 pc then
       bif Nat.beq pc 104 then some (.iconst 4, 1, [], .inl (4), []) else none
      else
       bif Nat.beq pc 103 then some (.dup, 1, [], .inl 0, []) else none
    else
     bif Nat.ble 101 pc then
      bif Nat.ble 102 pc then
       bif Nat.beq pc 102 then some (.iastore, 1, [], .inl 0, []) else none
      else
       bif Nat.beq pc 101 then some (.iconst (-1), 1, [], .inl (-1), []) else none
     else
      bif Nat.ble 100 pc then
       bif Nat.beq pc 100 then some (.iconst 3, 1, [], .inl (3), []) else none
      else
       bif Nat.beq pc 99 then some (.dup, 1, [], .inl 0, []) else none
  else
   bif Nat.ble 90 pc then
    bif Nat.ble 94 pc then
     bif Nat.ble 96 pc then
      bif Nat.ble 97 pc then
       bif Nat.ble 98 pc then
        bif Nat.beq pc 98 then some (.iastore, 1, [], .inl 0, []) else none
       else
        bif Nat.beq pc 97 then some (.iconst (-1), 1, [], .inl (-1), []) else none
      else
       bif Nat.beq pc 96 then some (.iconst 2, 1, [], .inl (2), []) else none
     else
      bif Nat.ble 95 pc then
       bif Nat.beq pc 95 then some (.dup, 1, [], .inl 0, []) else none
      else
       bif Nat.beq pc 94 then some (.iastore, 1, [], .inl 0, []) else none
    else
     bif Nat.ble 92 pc then
      bif Nat.ble 93 pc then
       bif Nat.beq pc 93 then some (.iconst (-1), 1, [], .inl (-1), []) else none
      else
       bif Nat.beq pc 92 then some (.iconst 1, 1, [], .inl (1), []) else none
     else
      bif Nat.ble 91 pc then
       bif Nat.beq pc 91 then some (.dup, 1, [], .inl 0, []) else none
      else
       bif Nat.beq pc 90 then some (.iastore, 1, [], .inl 0, []) else none
   else
    bif Nat.ble 84 pc then
     bif Nat.ble 87 pc then
      bif Nat.ble 88 pc then
       bif Nat.ble 89 pc then
        bif Nat.beq pc 89 then some (.iconst 0, 1, [], .inl (0), []) else none
       else
        bif Nat.beq pc 88 then some (.iconst 0, 1, [], .inl (0), []) else none
      else
       bif Nat.beq pc 87 then some (.dup, 1, [], .inl 0, []) else none
     else
      bif Nat.ble 85 pc then
       bif Nat.beq pc 85 then some (.newarray .int, 2, [20], .inl 0, []) else none
      else
       bif Nat.beq pc 84 then some (.iconst 5, 1, [], .inl (5), []) else none
    else
     bif Nat.ble 80 pc then
      bif Nat.ble 83 pc then
       bif Nat.beq pc 83 then some (.aload_n 0, 1, [], .inl 0, []) else none
      else
       bif Nat.beq pc 80 then some (.putfield 36, 3, [11, 717, 2], .inl 0, []) else none
     else
      bif Nat.ble 78 pc then
       bif Nat.beq pc 78 then some (.newarray .long, 2, [21], .inl 0, []) else none
      else
       bif Nat.beq pc 76 then some (.bipush 6, 2, [], .inl (6), []) else none
 else
  bif Nat.ble 38 pc then
   bif Nat.ble 59 pc then
    bif Nat.ble 67 pc then
     bif Nat.ble 70 pc then
      bif Nat.ble 72 pc then
       bif Nat.ble 75 pc then
        bif Nat.beq pc 75 then some (.aload_n 0, 1, [], .inl 0, []) else none
       else
        bif Nat.beq pc 72 then some (.putfield 32, 3, [11, 716, 2], .inl 0, []) else none
      else
       bif Nat.beq pc 70 then some (.newarray .long, 2, [21], .inl 0, []) else none
     else
      bif Nat.ble 68 pc then
       bif Nat.beq pc 68 then some (.bipush 6, 2, [], .inl (6), []) else none
      else
       bif Nat.beq pc 67 then some (.aload_n 0, 1, [], .inl 0, []) else none
    else
     bif Nat.ble 62 pc then
      bif Nat.ble 64 pc then
       bif Nat.beq pc 64 then some (.putfield 28, 3, [11, 714, 2], .inl 0, []) else none
      else
       bif Nat.beq pc 62 then some (.newarray .int, 2, [20], .inl 0, []) else none
     else
      bif Nat.ble 60 pc then
       bif Nat.beq pc 60 then some (.bipush 10, 2, [], .inl (10), []) else none
      else
       bif Nat.beq pc 59 then some (.aload_n 0, 1, [], .inl 0, []) else none
   else
    bif Nat.ble 48 pc then
     bif Nat.ble 52 pc then
      bif Nat.ble 53 pc then
       bif Nat.ble 56 pc then
        bif Nat.beq pc 56 then some (.putfield 25, 3, [11, 710, 2], .inl 0, []) else none
       else
        bif Nat.beq pc 53 then some (.invokespecial 9, 3, [11, 1, 0, 1, 0], .inl 0, []) else none
      else
       bif Nat.beq pc 52 then some (.dup, 1, [], .inl 0, []) else none
     else
      bif Nat.ble 49 pc then
       bif Nat.beq pc 49 then some (.new 7, 3, [0, 3], .inl 0, []) else none
      else
       bif Nat.beq pc 48 then some (.aload_n 0, 1, [], .inl 0, []) else none
    else
     bif Nat.ble 42 pc then
      bif Nat.ble 45 pc then
       bif Nat.beq pc 45 then some (.putfield 22, 3, [11, 707, 2], .inl 0, []) else none
      else
       bif Nat.beq pc 42 then some (.invokespecial 9, 3, [11, 1, 0, 1, 0], .inl 0, []) else none
     else
      bif Nat.ble 41 pc then
       bif Nat.beq pc 41 then some (.dup, 1, [], .inl 0, []) else none
      else
       bif Nat.beq pc 38 then some (.new 7, 3, [0, 3], .inl 0, []) else none
  else
   bif Nat.ble 19 pc then
    bif Nat.ble 27 pc then
     bif Nat.ble 31 pc then
      bif Nat.ble 34 pc then
       bif Nat.ble 37 pc then
        bif Nat.beq pc 37 then some (.aload_n 0, 1, [], .inl 0, []) else none
       else
        bif Nat.beq pc 34 then some (.putfield 19, 3, [11, 706, 2], .inl 0, []) else none
      else
       bif Nat.beq pc 31 then some (.invokespecial 9, 3, [11, 1, 0, 1, 0], .inl 0, []) else none
     else
      bif Nat.ble 30 pc then
       bif Nat.beq pc 30 then some (.dup, 1, [], .inl 0, []) else none
      else
       bif Nat.beq pc 27 then some (.new 7, 3, [0, 3], .inl 0, []) else none
    else
     bif Nat.ble 23 pc then
      bif Nat.ble 26 pc then
       bif Nat.beq pc 26 then some (.aload_n 0, 1, [], .inl 0, []) else none
      else
       bif Nat.beq pc 23 then some (.putfield 16, 3, [11, 705, 2], .inl 0, []) else none
     else
      bif Nat.ble 20 pc then
       bif Nat.beq pc 20 then some (.invokespecial 9, 3, [11, 1, 0, 1, 0], .inl 0, []) else none
      else
       bif Nat.beq pc 19 then some (.dup, 1, [], .inl 0, []) else none
   else
    bif Nat.ble 8 pc then
     bif Nat.ble 12 pc then
      bif Nat.ble 15 pc then
       bif Nat.ble 16 pc then
        bif Nat.beq pc 16 then some (.new 7, 3, [0, 3], .inl 0, []) else none
       else
        bif Nat.beq pc 15 then some (.aload_n 0, 1, [], .inl 0, []) else none
      else
       bif Nat.beq pc 12 then some (.putfield 10, 3, [11, 704, 2], .inl 0, []) else none
     else
      bif Nat.ble 9 pc then
       bif Nat.beq pc 9 then some (.invokespecial 9, 3, [11, 1, 0, 1, 0], .inl 0, []) else none
      else
       bif Nat.beq pc 8 then some (.dup, 1, [], .inl 0, []) else none
    else
     bif Nat.ble 4 pc then
      bif Nat.ble 5 pc then
       bif Nat.beq pc 5 then some (.new 7, 3, [0, 3], .inl 0, []) else none
      else
       bif Nat.beq pc 4 then some (.aload_n 0, 1, [], .inl 0, []) else none
     else
      bif Nat.ble 1 pc then
       bif Nat.beq pc 1 then some (.invokespecial 1, 3, [9000], .inl 0, []) else none
      else
       bif Nat.beq pc 0 then some (.aload_n 0, 1, [], .inl 0, []) else none
def kX11_enumeration (pc : Nat) : Option Ent := bif Nat.ble 49 pc then none else
 bif Nat.ble 24 pc then
  bif Nat.ble 38 pc then
   bif Nat.ble 43 pc then
    bif Nat.ble 47 pc then
     bif Nat.ble 48 pc then
      bif Nat.beq pc 48 then some (.ireturn, 1, [], .inl 0, []) else none
     else
      bif Nat.beq pc 47 then some (.isub, 1, [], .inl 0, []) else none
    else
     bif Nat.ble 46 pc then
      bif Nat.beq pc 46 then some (.iconst 1, 1, [], .inl (1), []) else none
     else
      bif Nat.beq pc 43 then some (.invokevirtual 52, 3, [14, 1, 1, 1, 0], .inl 0, []) else none
   else
    bif Nat.ble 39 pc then
     bif Nat.ble 40 pc then
      bif Nat.beq pc 40 then some (.getfield 10, 3, [11, 704, 2], .inl 0, []) else none
     else
      bif Nat.beq pc 39 then some (.aload_n 0, 1, [], .inl 0, []) else none
    else
     bif Nat.beq pc 38 then some (.pop, 1, [], .inl 0, []) else none
  else
   bif Nat.ble 31 pc then
    bif Nat.ble 32 pc then
     bif Nat.ble 35 pc then
      bif Nat.beq pc 35 then some (.invokevirtual 59, 3, [19, 2, 1, 2, 0], .inl 0, []) else none
     else
      bif Nat.beq pc 32 then some (.invokespecial 58, 3, [45, 1, 0, 1, 3], .inl 0, []) else none
    else
     bif Nat.beq pc 31 then some (.dup, 1, [], .inl 0, []) else none
   else
    bif Nat.ble 25 pc then
     bif Nat.ble 28 pc then
      bif Nat.beq pc 28 then some (.new 56, 3, [3, 4], .inl 0, []) else none
     else
      bif Nat.beq pc 25 then some (.getfield 10, 3, [11, 704, 2], .inl 0, []) else none
    else
     bif Nat.beq pc 24 then some (.aload_n 0, 1, [], .inl 0, []) else none
 else
  bif Nat.ble 11 pc then
   bif Nat.ble 18 pc then
    bif Nat.ble 21 pc then
     bif Nat.ble 23 pc then
      bif Nat.beq pc 23 then some (.ireturn, 1, [], .inl 0, []) else none
     else
      bif Nat.beq pc 21 then some (.bipush (-3), 2, [], .inl (-3), []) else none
    else
     bif Nat.beq pc 18 then some (.if_icmp .lt 6, 3, [], .inl 0, []) else none
   else
    bif Nat.ble 14 pc then
     bif Nat.ble 17 pc then
      bif Nat.beq pc 17 then some (.iconst 4, 1, [], .inl (4), []) else none
     else
      bif Nat.beq pc 14 then some (.invokevirtual 52, 3, [14, 1, 1, 1, 0], .inl 0, []) else none
    else
     bif Nat.beq pc 11 then some (.getfield 10, 3, [11, 704, 2], .inl 0, []) else none
  else
   bif Nat.ble 7 pc then
    bif Nat.ble 9 pc then
     bif Nat.ble 10 pc then
      bif Nat.beq pc 10 then some (.aload_n 0, 1, [], .inl 0, []) else none
     else
      bif Nat.beq pc 9 then some (.ireturn, 1, [], .inl 0, []) else none
    else
     bif Nat.beq pc 7 then some (.bipush (-2), 2, [], .inl (-2), []) else none
   else
    bif Nat.ble 1 pc then
     bif Nat.ble 4 pc then
      bif Nat.beq pc 4 then some (.ifCond .le 6, 3, [], .inl 0, []) else none
     else
      bif Nat.beq pc 1 then some (.getfield 48, 3, [11, 711, 0], .inl 0, []) else none
    else
     bif Nat.beq pc 0 then some (.aload_n 0, 1, [], .inl 0, []) else none
def kX11_constant (pc : Nat) : Option Ent := bif Nat.ble 87 pc then none else
 bif Nat.ble 41 pc then
  bif Nat.ble 66 pc then
   bif Nat.ble 76 pc then
    bif Nat.ble 84 pc then
     bif Nat.ble 85 pc then
      bif Nat.ble 86 pc then
       bif Nat.beq pc 86 then some (.ireturn, 1, [], .inl 0, []) else none
      else
       bif Nat.beq pc 85 then some (.isub, 1, [], .inl 0, []) else none
     else
      bif Nat.beq pc 84 then some (.iconst 1, 1, [], .inl (1), []) else none
    else
     bif Nat.ble 78 pc then
      bif Nat.ble 81 pc then
       bif Nat.beq pc 81 then some (.invokevirtual 52, 3, [14, 1, 1, 1, 0], .inl 0, []) else none
      else
       bif Nat.beq pc 78 then some (.getfield 77, 3, [3, 192, 2], .inl 0, []) else none
     else
      bif Nat.beq pc 76 then some (.aload 5, 2, [], .inl 0, []) else none
   else
    bif Nat.ble 69 pc then
     bif Nat.ble 72 pc then
      bif Nat.ble 75 pc then
       bif Nat.beq pc 75 then some (.pop, 1, [], .inl 0, []) else none
      else
       bif Nat.beq pc 72 then some (.invokevirtual 59, 3, [19, 2, 1, 2, 0], .inl 0, []) else none
     else
      bif Nat.beq pc 69 then some (.invokespecial 82, 3, [42, 3, 0, 4, 2], .inl 0, []) else none
    else
     bif Nat.ble 67 pc then
      bif Nat.beq pc 67 then some (.iload 4, 2, [], .inl 0, []) else none
     else
      bif Nat.beq pc 66 then some (.lload_n 2, 1, [], .inl 0, []) else none
  else
   bif Nat.ble 54 pc then
    bif Nat.ble 59 pc then
     bif Nat.ble 62 pc then
      bif Nat.ble 65 pc then
       bif Nat.beq pc 65 then some (.dup, 1, [], .inl 0, []) else none
      else
       bif Nat.beq pc 62 then some (.new 80, 3, [2, 2], .inl 0, []) else none
     else
      bif Nat.beq pc 59 then some (.getfield 77, 3, [3, 192, 2], .inl 0, []) else none
    else
     bif Nat.ble 56 pc then
      bif Nat.ble 57 pc then
       bif Nat.beq pc 57 then some (.aload 5, 2, [], .inl 0, []) else none
      else
       bif Nat.beq pc 56 then some (.ireturn, 1, [], .inl 0, []) else none
     else
      bif Nat.beq pc 54 then some (.bipush (-3), 2, [], .inl (-3), []) else none
   else
    bif Nat.ble 46 pc then
     bif Nat.ble 49 pc then
      bif Nat.ble 51 pc then
       bif Nat.beq pc 51 then some (.if_icmp .lt 6, 3, [], .inl 0, []) else none
      else
       bif Nat.beq pc 49 then some (.bipush 8, 2, [], .inl (8), []) else none
     else
      bif Nat.beq pc 46 then some (.invokevirtual 52, 3, [14, 1, 1, 1, 0], .inl 0, []) else none
    else
     bif Nat.ble 43 pc then
      bif Nat.beq pc 43 then some (.getfield 77, 3, [3, 192, 2], .inl 0, []) else none
     else
      bif Nat.beq pc 41 then some (.aload 5, 2, [], .inl 0, []) else none
 else
  bif Nat.ble 21 pc then
   bif Nat.ble 30 pc then
    bif Nat.ble 35 pc then
     bif Nat.ble 38 pc then
      bif Nat.ble 40 pc then
       bif Nat.beq pc 40 then some (.ireturn, 1, [], .inl 0, []) else none
      else
       bif Nat.beq pc 38 then some (.bipush (-2), 2, [], .inl (-2), []) else none
     else
      bif Nat.beq pc 35 then some (.ifCond .le 6, 3, [], .inl 0, []) else none
    else
     bif Nat.ble 31 pc then
      bif Nat.ble 32 pc then
       bif Nat.beq pc 32 then some (.getfield 48, 3, [11, 711, 0], .inl 0, []) else none
      else
       bif Nat.beq pc 31 then some (.aload_n 0, 1, [], .inl 0, []) else none
     else
      bif Nat.beq pc 30 then some (.ireturn, 1, [], .inl 0, []) else none
   else
    bif Nat.ble 25 pc then
     bif Nat.ble 26 pc then
      bif Nat.ble 29 pc then
       bif Nat.beq pc 29 then some (.iconst (-1), 1, [], .inl (-1), []) else none
      else
       bif Nat.beq pc 26 then some (.if_icmp .eq 5, 3, [], .inl 0, []) else none
     else
      bif Nat.beq pc 25 then some (.iconst (-1), 1, [], .inl (-1), []) else none
    else
     bif Nat.ble 22 pc then
      bif Nat.beq pc 22 then some (.invokevirtual 73, 3, [47, 2, 1, 4, 3], .inl 0, []) else none
     else
      bif Nat.beq pc 21 then some (.lload_n 2, 1, [], .inl 0, []) else none
  else
   bif Nat.ble 9 pc then
    bif Nat.ble 13 pc then
     bif Nat.ble 16 pc then
      bif Nat.ble 19 pc then
       bif Nat.beq pc 19 then some (.aload 5, 2, [], .inl 0, []) else none
      else
       bif Nat.beq pc 16 then some (.ifCond .eq 13, 3, [], .inl 0, []) else none
     else
      bif Nat.beq pc 13 then some (.invokestatic 67, 3, [30, 1, 1, 6, 100], .inl 0, []) else none
    else
     bif Nat.ble 12 pc then
      bif Nat.beq pc 12 then some (.lload_n 2, 1, [], .inl 0, []) else none
     else
      bif Nat.beq pc 9 then some (.ifnull 20, 3, [], .inl 0, []) else none
   else
    bif Nat.ble 2 pc then
     bif Nat.ble 5 pc then
      bif Nat.ble 7 pc then
       bif Nat.beq pc 7 then some (.aload 5, 2, [], .inl 0, []) else none
      else
       bif Nat.beq pc 5 then some (.astore 5, 2, [], .inl 0, []) else none
     else
      bif Nat.beq pc 2 then some (.invokevirtual 63, 3, [107, 2, 3, 2, 11], .inl 0, []) else none
    else
     bif Nat.ble 1 pc then
      bif Nat.beq pc 1 then some (.iload_n 1, 1, [], .inl 0, []) else none
     else
      bif Nat.beq pc 0 then some (.aload_n 0, 1, [], .inl 0, []) else none
def kX11_exchange (pc : Nat) : Option Ent := bif Nat.ble 80 pc then none else
 bif Nat.ble 39 pc then
  bif Nat.ble 60 pc then
   bif Nat.ble 71 pc then
    bif Nat.ble 77 pc then
     bif Nat.ble 78 pc then
      bif Nat.ble 79 pc then
       bif Nat.beq pc 79 then some (.ireturn, 1, [], .inl 0, []) else none
      else
       bif Nat.beq pc 78 then some (.iconst 1, 1, [], .inl (1), []) else none
     else
      bif Nat.beq pc 77 then some (.pop, 1, [], .inl 0, []) else none
    else
     bif Nat.ble 72 pc then
      bif Nat.ble 74 pc then
       bif Nat.beq pc 74 then some (.invokevirtual 89, 3, [17, 3, 3, 4, 0], .inl 0, []) else none
      else
       bif Nat.beq pc 72 then some (.aload 5, 2, [], .inl 0, []) else none
     else
      bif Nat.beq pc 71 then some (.iload_n 3, 1, [], .inl 0, []) else none
   else
    bif Nat.ble 65 pc then
     bif Nat.ble 66 pc then
      bif Nat.ble 68 pc then
       bif Nat.beq pc 68 then some (.getfield 77, 3, [3, 192, 2], .inl 0, []) else none
      else
       bif Nat.beq pc 66 then some (.aload 4, 2, [], .inl 0, []) else none
     else
      bif Nat.beq pc 65 then some (.pop, 1, [], .inl 0, []) else none
    else
     bif Nat.ble 62 pc then
      bif Nat.beq pc 62 then some (.invokevirtual 89, 3, [17, 3, 3, 4, 0], .inl 0, []) else none
     else
      bif Nat.beq pc 60 then some (.aload 6, 2, [], .inl 0, []) else none
  else
   bif Nat.ble 48 pc then
    bif Nat.ble 54 pc then
     bif Nat.ble 56 pc then
      bif Nat.ble 59 pc then
       bif Nat.beq pc 59 then some (.iload_n 2, 1, [], .inl 0, []) else none
      else
       bif Nat.beq pc 56 then some (.getfield 77, 3, [3, 192, 2], .inl 0, []) else none
     else
      bif Nat.beq pc 54 then some (.aload 4, 2, [], .inl 0, []) else none
    else
     bif Nat.ble 51 pc then
      bif Nat.ble 53 pc then
       bif Nat.beq pc 53 then some (.ireturn, 1, [], .inl 0, []) else none
      else
       bif Nat.beq pc 51 then some (.bipush (-2), 2, [], .inl (-2), []) else none
     else
      bif Nat.beq pc 48 then some (.ifCond .le 6, 3, [], .inl 0, []) else none
   else
    bif Nat.ble 43 pc then
     bif Nat.ble 44 pc then
      bif Nat.ble 45 pc then
       bif Nat.beq pc 45 then some (.getfield 48, 3, [11, 711, 0], .inl 0, []) else none
      else
       bif Nat.beq pc 44 then some (.aload_n 0, 1, [], .inl 0, []) else none
     else
      bif Nat.beq pc 43 then some (.ireturn, 1, [], .inl 0, []) else none
    else
     bif Nat.ble 42 pc then
      bif Nat.beq pc 42 then some (.iconst (-1), 1, [], .inl (-1), []) else none
     else
      bif Nat.beq pc 39 then some (.ifnonnull 5, 3, [], .inl 0, []) else none
 else
  bif Nat.ble 17 pc then
   bif Nat.ble 26 pc then
    bif Nat.ble 32 pc then
     bif Nat.ble 34 pc then
      bif Nat.ble 37 pc then
       bif Nat.beq pc 37 then some (.aload 6, 2, [], .inl 0, []) else none
      else
       bif Nat.beq pc 34 then some (.ifnull 8, 3, [], .inl 0, []) else none
     else
      bif Nat.beq pc 32 then some (.aload 5, 2, [], .inl 0, []) else none
    else
     bif Nat.ble 27 pc then
      bif Nat.ble 30 pc then
       bif Nat.beq pc 30 then some (.astore 6, 2, [], .inl 0, []) else none
      else
       bif Nat.beq pc 27 then some (.invokevirtual 85, 3, [46, 2, 3, 3, 3], .inl 0, []) else none
     else
      bif Nat.beq pc 26 then some (.i2l, 1, [], .inl 0, []) else none
   else
    bif Nat.ble 21 pc then
     bif Nat.ble 23 pc then
      bif Nat.ble 25 pc then
       bif Nat.beq pc 25 then some (.iload_n 3, 1, [], .inl 0, []) else none
      else
       bif Nat.beq pc 23 then some (.aload 4, 2, [], .inl 0, []) else none
     else
      bif Nat.beq pc 21 then some (.astore 5, 2, [], .inl 0, []) else none
    else
     bif Nat.ble 18 pc then
      bif Nat.beq pc 18 then some (.invokevirtual 85, 3, [46, 2, 3, 3, 3], .inl 0, []) else none
     else
      bif Nat.beq pc 17 then some (.i2l, 1, [], .inl 0, []) else none
  else
   bif Nat.ble 9 pc then
    bif Nat.ble 13 pc then
     bif Nat.ble 14 pc then
      bif Nat.ble 16 pc then
       bif Nat.beq pc 16 then some (.iload_n 2, 1, [], .inl 0, []) else none
      else
       bif Nat.beq pc 14 then some (.aload 4, 2, [], .inl 0, []) else none
     else
      bif Nat.beq pc 13 then some (.ireturn, 1, [], .inl 0, []) else none
    else
     bif Nat.ble 12 pc then
      bif Nat.beq pc 12 then some (.iconst (-1), 1, [], .inl (-1), []) else none
     else
      bif Nat.beq pc 9 then some (.ifnonnull 5, 3, [], .inl 0, []) else none
   else
    bif Nat.ble 2 pc then
     bif Nat.ble 5 pc then
      bif Nat.ble 7 pc then
       bif Nat.beq pc 7 then some (.aload 4, 2, [], .inl 0, []) else none
      else
       bif Nat.beq pc 5 then some (.astore 4, 2, [], .inl 0, []) else none
     else
      bif Nat.beq pc 2 then some (.invokevirtual 63, 3, [107, 2, 3, 2, 11], .inl 0, []) else none
    else
     bif Nat.ble 1 pc then
      bif Nat.beq pc 1 then some (.iload_n 1, 1, [], .inl 0, []) else none
     else
      bif Nat.beq pc 0 then some (.aload_n 0, 1, [], .inl 0, []) else none
def kX11_forget (pc : Nat) : Option Ent := bif Nat.ble 48 pc then none else
 bif Nat.ble 21 pc then
  bif Nat.ble 35 pc then
   bif Nat.ble 40 pc then
    bif Nat.ble 44 pc then
     bif Nat.ble 47 pc then
      bif Nat.beq pc 47 then some (.ireturn, 1, [], .inl 0, []) else none
     else
      bif Nat.beq pc 44 then some (.invokevirtual 52, 3, [14, 1, 1, 1, 0], .inl 0, []) else none
    else
     bif Nat.ble 41 pc then
      bif Nat.beq pc 41 then some (.getfield 77, 3, [3, 192, 2], .inl 0, []) else none
     else
      bif Nat.beq pc 40 then some (.aload_n 3, 1, [], .inl 0, []) else none
   else
    bif Nat.ble 36 pc then
     bif Nat.ble 39 pc then
      bif Nat.beq pc 39 then some (.pop, 1, [], .inl 0, []) else none
     else
      bif Nat.beq pc 36 then some (.invokevirtual 93, 3, [20, 2, 3, 4, 0], .inl 0, []) else none
    else
     bif Nat.beq pc 35 then some (.iload_n 2, 1, [], .inl 0, []) else none
  else
   bif Nat.ble 28 pc then
    bif Nat.ble 31 pc then
     bif Nat.ble 32 pc then
      bif Nat.beq pc 32 then some (.getfield 77, 3, [3, 192, 2], .inl 0, []) else none
     else
      bif Nat.beq pc 31 then some (.aload_n 3, 1, [], .inl 0, []) else none
    else
     bif Nat.ble 30 pc then
      bif Nat.beq pc 30 then some (.ireturn, 1, [], .inl 0, []) else none
     else
      bif Nat.beq pc 28 then some (.bipush (-2), 2, [], .inl (-2), []) else none
   else
    bif Nat.ble 22 pc then
     bif Nat.ble 25 pc then
      bif Nat.beq pc 25 then some (.ifCond .le 6, 3, [], .inl 0, []) else none
     else
      bif Nat.beq pc 22 then some (.getfield 48, 3, [11, 711, 0], .inl 0, []) else none
    else
     bif Nat.beq pc 21 then some (.aload_n 0, 1, [], .inl 0, []) else none
 else
  bif Nat.ble 10 pc then
   bif Nat.ble 13 pc then
    bif Nat.ble 19 pc then
     bif Nat.ble 20 pc then
      bif Nat.beq pc 20 then some (.ireturn, 1, [], .inl 0, []) else none
     else
      bif Nat.beq pc 19 then some (.iconst (-1), 1, [], .inl (-1), []) else none
    else
     bif Nat.ble 16 pc then
      bif Nat.beq pc 16 then some (.ifnonnull 5, 3, [], .inl 0, []) else none
     else
      bif Nat.beq pc 13 then some (.invokevirtual 85, 3, [46, 2, 3, 3, 3], .inl 0, []) else none
   else
    bif Nat.ble 11 pc then
     bif Nat.ble 12 pc then
      bif Nat.beq pc 12 then some (.i2l, 1, [], .inl 0, []) else none
     else
      bif Nat.beq pc 11 then some (.iload_n 2, 1, [], .inl 0, []) else none
    else
     bif Nat.beq pc 10 then some (.aload_n 3, 1, [], .inl 0, []) else none
  else
   bif Nat.ble 5 pc then
    bif Nat.ble 6 pc then
     bif Nat.ble 7 pc then
      bif Nat.beq pc 7 then some (.ifnull 12, 3, [], .inl 0, []) else none
     else
      bif Nat.beq pc 6 then some (.aload_n 3, 1, [], .inl 0, []) else none
    else
     bif Nat.beq pc 5 then some (.astore_n 3, 1, [], .inl 0, []) else none
   else
    bif Nat.ble 1 pc then
     bif Nat.ble 2 pc then
      bif Nat.beq pc 2 then some (.invokevirtual 63, 3, [107, 2, 3, 2, 11], .inl 0, []) else none
     else
      bif Nat.beq pc 1 then some (.iload_n 1, 1, [], .inl 0, []) else none
    else
     bif Nat.beq pc 0 then some (.aload_n 0, 1, [], .inl 0, []) else none
def kX11_fails (pc : Nat) : Option Ent := bif Nat.ble 44 pc then none else
 bif Nat.ble 21 pc then
  bif Nat.ble 33 pc then
   bif Nat.ble 37 pc then
    bif Nat.ble 41 pc then
     bif Nat.ble 43 pc then
      bif Nat.beq pc 43 then some (.ireturn, 1, [], .inl 0, []) else none
     else
      bif Nat.beq pc 41 then some (.iload 4, 2, [], .inl 0, []) else none
    else
     bif Nat.ble 38 pc then
      bif Nat.beq pc 38 then some (.putfield 97, 3, [3, 193, 3], .inl 0, []) else none
     else
      bif Nat.beq pc 37 then some (.iload_n 2, 1, [], .inl 0, []) else none
   else
    bif Nat.ble 34 pc then
     bif Nat.ble 36 pc then
      bif Nat.beq pc 36 then some (.aload_n 3, 1, [], .inl 0, []) else none
     else
      bif Nat.beq pc 34 then some (.istore 4, 2, [], .inl 0, []) else none
    else
     bif Nat.beq pc 33 then some (.iconst 0, 1, [], .inl (0), []) else none
  else
   bif Nat.ble 26 pc then
    bif Nat.ble 29 pc then
     bif Nat.ble 30 pc then
      bif Nat.beq pc 30 then some (.goto 4, 3, [], .inl 0, []) else none
     else
      bif Nat.beq pc 29 then some (.iconst 1, 1, [], .inl (1), []) else none
    else
     bif Nat.beq pc 26 then some (.ifCond .eq 7, 3, [], .inl 0, []) else none
   else
    bif Nat.ble 22 pc then
     bif Nat.ble 23 pc then
      bif Nat.beq pc 23 then some (.getfield 97, 3, [3, 193, 0], .inl 0, []) else none
     else
      bif Nat.beq pc 22 then some (.aload_n 3, 1, [], .inl 0, []) else none
    else
     bif Nat.beq pc 21 then some (.ireturn, 1, [], .inl 0, []) else none
 else
  bif Nat.ble 10 pc then
   bif Nat.ble 13 pc then
    bif Nat.ble 16 pc then
     bif Nat.ble 19 pc then
      bif Nat.beq pc 19 then some (.bipush (-2), 2, [], .inl (-2), []) else none
     else
      bif Nat.beq pc 16 then some (.ifCond .le 6, 3, [], .inl 0, []) else none
    else
     bif Nat.beq pc 13 then some (.getfield 48, 3, [11, 711, 0], .inl 0, []) else none
   else
    bif Nat.ble 11 pc then
     bif Nat.ble 12 pc then
      bif Nat.beq pc 12 then some (.aload_n 0, 1, [], .inl 0, []) else none
     else
      bif Nat.beq pc 11 then some (.ireturn, 1, [], .inl 0, []) else none
    else
     bif Nat.beq pc 10 then some (.iconst (-1), 1, [], .inl (-1), []) else none
  else
   bif Nat.ble 5 pc then
    bif Nat.ble 6 pc then
     bif Nat.ble 7 pc then
      bif Nat.beq pc 7 then some (.ifnonnull 5, 3, [], .inl 0, []) else none
     else
      bif Nat.beq pc 6 then some (.aload_n 3, 1, [], .inl 0, []) else none
    else
     bif Nat.beq pc 5 then some (.astore_n 3, 1, [], .inl 0, []) else none
   else
    bif Nat.ble 1 pc then
     bif Nat.ble 2 pc then
      bif Nat.beq pc 2 then some (.invokevirtual 63, 3, [107, 2, 3, 2, 11], .inl 0, []) else none
     else
      bif Nat.beq pc 1 then some (.iload_n 1, 1, [], .inl 0, []) else none
    else
     bif Nat.beq pc 0 then some (.aload_n 0, 1, [], .inl 0, []) else none
def kX11_family (pc : Nat) : Option Ent := bif Nat.ble 49 pc then none else
 bif Nat.ble 24 pc then
  bif Nat.ble 38 pc then
   bif Nat.ble 43 pc then
    bif Nat.ble 47 pc then
     bif Nat.ble 48 pc then
      bif Nat.beq pc 48 then some (.ireturn, 1, [], .inl 0, []) else none
     else
      bif Nat.beq pc 47 then some (.isub, 1, [], .inl 0, []) else none
    else
     bif Nat.ble 46 pc then
      bif Nat.beq pc 46 then some (.iconst 1, 1, [], .inl (1), []) else none
     else
      bif Nat.beq pc 43 then some (.invokevirtual 52, 3, [14, 1, 1, 1, 0], .inl 0, []) else none
   else
    bif Nat.ble 39 pc then
     bif Nat.ble 40 pc then
      bif Nat.beq pc 40 then some (.getfield 19, 3, [11, 706, 2], .inl 0, []) else none
     else
      bif Nat.beq pc 39 then some (.aload_n 0, 1, [], .inl 0, []) else none
    else
     bif Nat.beq pc 38 then some (.pop, 1, [], .inl 0, []) else none
  else
   bif Nat.ble 31 pc then
    bif Nat.ble 32 pc then
     bif Nat.ble 35 pc then
      bif Nat.beq pc 35 then some (.invokevirtual 59, 3, [19, 2, 1, 2, 0], .inl 0, []) else none
     else
      bif Nat.beq pc 32 then some (.invokespecial 103, 3, [49, 1, 0, 1, 4], .inl 0, []) else none
    else
     bif Nat.beq pc 31 then some (.dup, 1, [], .inl 0, []) else none
   else
    bif Nat.ble 25 pc then
     bif Nat.ble 28 pc then
      bif Nat.beq pc 28 then some (.new 101, 3, [4, 4], .inl 0, []) else none
     else
      bif Nat.beq pc 25 then some (.getfield 19, 3, [11, 706, 2], .inl 0, []) else none
    else
     bif Nat.beq pc 24 then some (.aload_n 0, 1, [], .inl 0, []) else none
 else
  bif Nat.ble 11 pc then
   bif Nat.ble 18 pc then
    bif Nat.ble 21 pc then
     bif Nat.ble 23 pc then
      bif Nat.beq pc 23 then some (.ireturn, 1, [], .inl 0, []) else none
     else
      bif Nat.beq pc 21 then some (.bipush (-3), 2, [], .inl (-3), []) else none
    else
     bif Nat.beq pc 18 then some (.if_icmp .lt 6, 3, [], .inl 0, []) else none
   else
    bif Nat.ble 14 pc then
     bif Nat.ble 17 pc then
      bif Nat.beq pc 17 then some (.iconst 3, 1, [], .inl (3), []) else none
     else
      bif Nat.beq pc 14 then some (.invokevirtual 52, 3, [14, 1, 1, 1, 0], .inl 0, []) else none
    else
     bif Nat.beq pc 11 then some (.getfield 19, 3, [11, 706, 2], .inl 0, []) else none
  else
   bif Nat.ble 7 pc then
    bif Nat.ble 9 pc then
     bif Nat.ble 10 pc then
      bif Nat.beq pc 10 then some (.aload_n 0, 1, [], .inl 0, []) else none
     else
      bif Nat.beq pc 9 then some (.ireturn, 1, [], .inl 0, []) else none
    else
     bif Nat.beq pc 7 then some (.bipush (-2), 2, [], .inl (-2), []) else none
   else
    bif Nat.ble 1 pc then
     bif Nat.ble 4 pc then
      bif Nat.beq pc 4 then some (.ifCond .le 6, 3, [], .inl 0, []) else none
     else
      bif Nat.beq pc 1 then some (.getfield 48, 3, [11, 711, 0], .inl 0, []) else none
    else
     bif Nat.beq pc 0 then some (.aload_n 0, 1, [], .inl 0, []) else none
def kX11_permit (pc : Nat) : Option Ent := bif Nat.ble 115 pc then none else
 bif Nat.ble 58 pc then
  bif Nat.ble 87 pc then
   bif Nat.ble 99 pc then
    bif Nat.ble 106 pc then
     bif Nat.ble 111 pc then
      bif Nat.ble 114 pc then
       bif Nat.beq pc 114 then some (.ireturn, 1, [], .inl 0, []) else none
      else
       bif Nat.beq pc 111 then some (.getfield 112, 3, [4, 257, 0], .inl 0, []) else none
     else
      bif Nat.ble 109 pc then
       bif Nat.beq pc 109 then some (.aload 4, 2, [], .inl 0, []) else none
      else
       bif Nat.beq pc 106 then some (.invokevirtual 118, 3, [115, 1, 0, 5, 11], .inl 0, []) else none
    else
     bif Nat.ble 104 pc then
      bif Nat.ble 105 pc then
       bif Nat.beq pc 105 then some (.aload_n 0, 1, [], .inl 0, []) else none
      else
       bif Nat.beq pc 104 then some (.iastore, 1, [], .inl 0, []) else none
     else
      bif Nat.ble 102 pc then
       bif Nat.beq pc 102 then some (.iload 5, 2, [], .inl 0, []) else none
      else
       bif Nat.beq pc 99 then some (.putfield 112, 3, [4, 257, 0], .inl 0, []) else none
   else
    bif Nat.ble 93 pc then
     bif Nat.ble 97 pc then
      bif Nat.ble 98 pc then
       bif Nat.beq pc 98 then some (.iadd, 1, [], .inl 0, []) else none
      else
       bif Nat.beq pc 97 then some (.iconst 1, 1, [], .inl (1), []) else none
     else
      bif Nat.ble 96 pc then
       bif Nat.beq pc 96 then some (.dup_x1, 1, [], .inl 0, []) else none
      else
       bif Nat.beq pc 93 then some (.getfield 112, 3, [4, 257, 0], .inl 0, []) else none
    else
     bif Nat.ble 90 pc then
      bif Nat.ble 92 pc then
       bif Nat.beq pc 92 then some (.dup, 1, [], .inl 0, []) else none
      else
       bif Nat.beq pc 90 then some (.aload 4, 2, [], .inl 0, []) else none
     else
      bif Nat.beq pc 87 then some (.getfield 115, 3, [4, 256, 2], .inl 0, []) else none
  else
   bif Nat.ble 72 pc then
    bif Nat.ble 79 pc then
     bif Nat.ble 84 pc then
      bif Nat.ble 85 pc then
       bif Nat.beq pc 85 then some (.aload 4, 2, [], .inl 0, []) else none
      else
       bif Nat.beq pc 84 then some (.ireturn, 1, [], .inl 0, []) else none
     else
      bif Nat.ble 82 pc then
       bif Nat.beq pc 82 then some (.bipush (-3), 2, [], .inl (-3), []) else none
      else
       bif Nat.beq pc 79 then some (.if_icmp .lt 6, 3, [], .inl 0, []) else none
    else
     bif Nat.ble 75 pc then
      bif Nat.ble 78 pc then
       bif Nat.beq pc 78 then some (.iconst 4, 1, [], .inl (4), []) else none
      else
       bif Nat.beq pc 75 then some (.getfield 112, 3, [4, 257, 0], .inl 0, []) else none
     else
      bif Nat.ble 73 pc then
       bif Nat.beq pc 73 then some (.aload 4, 2, [], .inl 0, []) else none
      else
       bif Nat.beq pc 72 then some (.ireturn, 1, [], .inl 0, []) else none
   else
    bif Nat.ble 63 pc then
     bif Nat.ble 67 pc then
      bif Nat.ble 70 pc then
       bif Nat.beq pc 70 then some (.bipush (-2), 2, [], .inl (-2), []) else none
      else
       bif Nat.beq pc 67 then some (.ifCond .le 6, 3, [], .inl 0, []) else none
     else
      bif Nat.ble 64 pc then
       bif Nat.beq pc 64 then some (.getfield 48, 3, [11, 711, 0], .inl 0, []) else none
      else
       bif Nat.beq pc 63 then some (.aload_n 0, 1, [], .inl 0, []) else none
    else
     bif Nat.ble 61 pc then
      bif Nat.ble 62 pc then
       bif Nat.beq pc 62 then some (.ireturn, 1, [], .inl 0, []) else none
      else
       bif Nat.beq pc 61 then some (.iconst (-1), 1, [], .inl (-1), []) else none
     else
      bif Nat.beq pc 58 then some (.ifCond .eq 5, 3, [], .inl 0, []) else none
 else
  bif Nat.ble 29 pc then
   bif Nat.ble 43 pc then
    bif Nat.ble 49 pc then
     bif Nat.ble 53 pc then
      bif Nat.ble 55 pc then
       bif Nat.beq pc 55 then some (.invokevirtual 108, 3, [50, 2, 1, 3, 4], .inl 0, []) else none
      else
       bif Nat.beq pc 53 then some (.iload 5, 2, [], .inl 0, []) else none
     else
      bif Nat.ble 51 pc then
       bif Nat.beq pc 51 then some (.aload 4, 2, [], .inl 0, []) else none
      else
       bif Nat.beq pc 49 then some (.istore 5, 2, [], .inl 0, []) else none
    else
     bif Nat.ble 45 pc then
      bif Nat.ble 48 pc then
       bif Nat.beq pc 48 then some (.iload_n 3, 1, [], .inl 0, []) else none
      else
       bif Nat.beq pc 45 then some (.goto 4, 3, [], .inl 0, []) else none
     else
      bif Nat.ble 44 pc then
       bif Nat.beq pc 44 then some (.iadd, 1, [], .inl 0, []) else none
      else
       bif Nat.beq pc 43 then some (.iload_n 3, 1, [], .inl 0, []) else none
   else
    bif Nat.ble 36 pc then
     bif Nat.ble 38 pc then
      bif Nat.ble 41 pc then
       bif Nat.beq pc 41 then some (.bipush 10, 2, [], .inl (10), []) else none
      else
       bif Nat.beq pc 38 then some (.ifCond .eq 10, 3, [], .inl 0, []) else none
     else
      bif Nat.ble 37 pc then
       bif Nat.beq pc 37 then some (.iload_n 2, 1, [], .inl 0, []) else none
      else
       bif Nat.beq pc 36 then some (.ireturn, 1, [], .inl 0, []) else none
    else
     bif Nat.ble 32 pc then
      bif Nat.ble 35 pc then
       bif Nat.beq pc 35 then some (.iconst (-1), 1, [], .inl (-1), []) else none
      else
       bif Nat.beq pc 32 then some (.if_icmp .lt 5, 3, [], .inl 0, []) else none
     else
      bif Nat.beq pc 29 then some (.invokevirtual 52, 3, [14, 1, 1, 1, 0], .inl 0, []) else none
  else
   bif Nat.ble 13 pc then
    bif Nat.ble 21 pc then
     bif Nat.ble 25 pc then
      bif Nat.ble 26 pc then
       bif Nat.beq pc 26 then some (.getfield 16, 3, [11, 705, 2], .inl 0, []) else none
      else
       bif Nat.beq pc 25 then some (.aload_n 0, 1, [], .inl 0, []) else none
     else
      bif Nat.ble 22 pc then
       bif Nat.beq pc 22 then some (.goto 10, 3, [], .inl 0, []) else none
      else
       bif Nat.beq pc 21 then some (.iload_n 1, 1, [], .inl 0, []) else none
    else
     bif Nat.ble 17 pc then
      bif Nat.ble 18 pc then
       bif Nat.beq pc 18 then some (.ifCond .eq 7, 3, [], .inl 0, []) else none
      else
       bif Nat.beq pc 17 then some (.iload_n 2, 1, [], .inl 0, []) else none
     else
      bif Nat.ble 16 pc then
       bif Nat.beq pc 16 then some (.iload_n 3, 1, [], .inl 0, []) else none
      else
       bif Nat.beq pc 13 then some (.ifCond .lt 22, 3, [], .inl 0, []) else none
   else
    bif Nat.ble 5 pc then
     bif Nat.ble 9 pc then
      bif Nat.ble 12 pc then
       bif Nat.beq pc 12 then some (.iload_n 3, 1, [], .inl 0, []) else none
      else
       bif Nat.beq pc 9 then some (.ifnull 26, 3, [], .inl 0, []) else none
     else
      bif Nat.ble 7 pc then
       bif Nat.beq pc 7 then some (.aload 4, 2, [], .inl 0, []) else none
      else
       bif Nat.beq pc 5 then some (.astore 4, 2, [], .inl 0, []) else none
    else
     bif Nat.ble 1 pc then
      bif Nat.ble 2 pc then
       bif Nat.beq pc 2 then some (.invokevirtual 104, 3, [109, 2, 3, 2, 11], .inl 0, []) else none
      else
       bif Nat.beq pc 1 then some (.iload_n 1, 1, [], .inl 0, []) else none
     else
      bif Nat.beq pc 0 then some (.aload_n 0, 1, [], .inl 0, []) else none
def kX11_record (pc : Nat) : Option Ent := bif Nat.ble 50 pc then none else
 bif Nat.ble 25 pc then
  bif Nat.ble 39 pc then
   bif Nat.ble 44 pc then
    bif Nat.ble 48 pc then
     bif Nat.ble 49 pc then
      bif Nat.beq pc 49 then some (.ireturn, 1, [], .inl 0, []) else none
     else
      bif Nat.beq pc 48 then some (.isub, 1, [], .inl 0, []) else none
    else
     bif Nat.ble 47 pc then
      bif Nat.beq pc 47 then some (.iconst 1, 1, [], .inl (1), []) else none
     else
      bif Nat.beq pc 44 then some (.invokevirtual 52, 3, [14, 1, 1, 1, 0], .inl 0, []) else none
   else
    bif Nat.ble 40 pc then
     bif Nat.ble 41 pc then
      bif Nat.beq pc 41 then some (.getfield 16, 3, [11, 705, 2], .inl 0, []) else none
     else
      bif Nat.beq pc 40 then some (.aload_n 0, 1, [], .inl 0, []) else none
    else
     bif Nat.beq pc 39 then some (.pop, 1, [], .inl 0, []) else none
  else
   bif Nat.ble 32 pc then
    bif Nat.ble 33 pc then
     bif Nat.ble 36 pc then
      bif Nat.beq pc 36 then some (.invokevirtual 59, 3, [19, 2, 1, 2, 0], .inl 0, []) else none
     else
      bif Nat.beq pc 33 then some (.invokespecial 123, 3, [64, 1, 0, 1, 9], .inl 0, []) else none
    else
     bif Nat.beq pc 32 then some (.dup, 1, [], .inl 0, []) else none
   else
    bif Nat.ble 26 pc then
     bif Nat.ble 29 pc then
      bif Nat.beq pc 29 then some (.new 121, 3, [9, 3], .inl 0, []) else none
     else
      bif Nat.beq pc 26 then some (.getfield 16, 3, [11, 705, 2], .inl 0, []) else none
    else
     bif Nat.beq pc 25 then some (.aload_n 0, 1, [], .inl 0, []) else none
 else
  bif Nat.ble 11 pc then
   bif Nat.ble 19 pc then
    bif Nat.ble 22 pc then
     bif Nat.ble 24 pc then
      bif Nat.beq pc 24 then some (.ireturn, 1, [], .inl 0, []) else none
     else
      bif Nat.beq pc 22 then some (.bipush (-3), 2, [], .inl (-3), []) else none
    else
     bif Nat.beq pc 19 then some (.if_icmp .lt 6, 3, [], .inl 0, []) else none
   else
    bif Nat.ble 14 pc then
     bif Nat.ble 17 pc then
      bif Nat.beq pc 17 then some (.bipush 6, 2, [], .inl (6), []) else none
     else
      bif Nat.beq pc 14 then some (.invokevirtual 52, 3, [14, 1, 1, 1, 0], .inl 0, []) else none
    else
     bif Nat.beq pc 11 then some (.getfield 16, 3, [11, 705, 2], .inl 0, []) else none
  else
   bif Nat.ble 7 pc then
    bif Nat.ble 9 pc then
     bif Nat.ble 10 pc then
      bif Nat.beq pc 10 then some (.aload_n 0, 1, [], .inl 0, []) else none
     else
      bif Nat.beq pc 9 then some (.ireturn, 1, [], .inl 0, []) else none
    else
     bif Nat.beq pc 7 then some (.bipush (-2), 2, [], .inl (-2), []) else none
   else
    bif Nat.ble 1 pc then
     bif Nat.ble 4 pc then
      bif Nat.beq pc 4 then some (.ifCond .le 6, 3, [], .inl 0, []) else none
     else
      bif Nat.beq pc 1 then some (.getfield 48, 3, [11, 711, 0], .inl 0, []) else none
    else
     bif Nat.beq pc 0 then some (.aload_n 0, 1, [], .inl 0, []) else none
def kX11_part (pc : Nat) : Option Ent := bif Nat.ble 101 pc then none else
 bif Nat.ble 50 pc then
  bif Nat.ble 76 pc then
   bif Nat.ble 89 pc then
    bif Nat.ble 95 pc then
     bif Nat.ble 99 pc then
      bif Nat.ble 100 pc then
       bif Nat.beq pc 100 then some (.ireturn, 1, [], .inl 0, []) else none
      else
       bif Nat.beq pc 99 then some (.isub, 1, [], .inl 0, []) else none
     else
      bif Nat.ble 98 pc then
       bif Nat.beq pc 98 then some (.iconst 1, 1, [], .inl (1), []) else none
      else
       bif Nat.beq pc 95 then some (.invokevirtual 52, 3, [14, 1, 1, 1, 0], .inl 0, []) else none
    else
     bif Nat.ble 90 pc then
      bif Nat.ble 92 pc then
       bif Nat.beq pc 92 then some (.getfield 135, 3, [9, 576, 2], .inl 0, []) else none
      else
       bif Nat.beq pc 90 then some (.aload 8, 2, [], .inl 0, []) else none
     else
      bif Nat.beq pc 89 then some (.pop, 1, [], .inl 0, []) else none
   else
    bif Nat.ble 81 pc then
     bif Nat.ble 83 pc then
      bif Nat.ble 86 pc then
       bif Nat.beq pc 86 then some (.invokevirtual 59, 3, [19, 2, 1, 2, 0], .inl 0, []) else none
      else
       bif Nat.beq pc 83 then some (.invokespecial 140, 3, [63, 5, 0, 7, 8], .inl 0, []) else none
     else
      bif Nat.beq pc 81 then some (.lload 6, 2, [], .inl 0, []) else none
    else
     bif Nat.ble 77 pc then
      bif Nat.ble 79 pc then
       bif Nat.beq pc 79 then some (.iload 5, 2, [], .inl 0, []) else none
      else
       bif Nat.beq pc 77 then some (.iload 4, 2, [], .inl 0, []) else none
     else
      bif Nat.beq pc 76 then some (.lload_n 2, 1, [], .inl 0, []) else none
  else
   bif Nat.ble 64 pc then
    bif Nat.ble 69 pc then
     bif Nat.ble 72 pc then
      bif Nat.ble 75 pc then
       bif Nat.beq pc 75 then some (.dup, 1, [], .inl 0, []) else none
      else
       bif Nat.beq pc 72 then some (.new 138, 3, [8, 4], .inl 0, []) else none
     else
      bif Nat.beq pc 69 then some (.getfield 135, 3, [9, 576, 2], .inl 0, []) else none
    else
     bif Nat.ble 66 pc then
      bif Nat.ble 67 pc then
       bif Nat.beq pc 67 then some (.aload 8, 2, [], .inl 0, []) else none
      else
       bif Nat.beq pc 66 then some (.ireturn, 1, [], .inl 0, []) else none
     else
      bif Nat.beq pc 64 then some (.bipush (-3), 2, [], .inl (-3), []) else none
   else
    bif Nat.ble 56 pc then
     bif Nat.ble 59 pc then
      bif Nat.ble 61 pc then
       bif Nat.beq pc 61 then some (.if_icmp .lt 6, 3, [], .inl 0, []) else none
      else
       bif Nat.beq pc 59 then some (.bipush 6, 2, [], .inl (6), []) else none
     else
      bif Nat.beq pc 56 then some (.invokevirtual 52, 3, [14, 1, 1, 1, 0], .inl 0, []) else none
    else
     bif Nat.ble 51 pc then
      bif Nat.ble 53 pc then
       bif Nat.beq pc 53 then some (.getfield 135, 3, [9, 576, 2], .inl 0, []) else none
      else
       bif Nat.beq pc 51 then some (.aload 8, 2, [], .inl 0, []) else none
     else
      bif Nat.beq pc 50 then some (.ireturn, 1, [], .inl 0, []) else none
 else
  bif Nat.ble 25 pc then
   bif Nat.ble 39 pc then
    bif Nat.ble 42 pc then
     bif Nat.ble 45 pc then
      bif Nat.ble 48 pc then
       bif Nat.beq pc 48 then some (.bipush (-2), 2, [], .inl (-2), []) else none
      else
       bif Nat.beq pc 45 then some (.ifCond .le 6, 3, [], .inl 0, []) else none
     else
      bif Nat.beq pc 42 then some (.getfield 48, 3, [11, 711, 0], .inl 0, []) else none
    else
     bif Nat.ble 40 pc then
      bif Nat.ble 41 pc then
       bif Nat.beq pc 41 then some (.aload_n 0, 1, [], .inl 0, []) else none
      else
       bif Nat.beq pc 40 then some (.ireturn, 1, [], .inl 0, []) else none
     else
      bif Nat.beq pc 39 then some (.iconst (-1), 1, [], .inl (-1), []) else none
   else
    bif Nat.ble 31 pc then
     bif Nat.ble 33 pc then
      bif Nat.ble 36 pc then
       bif Nat.beq pc 36 then some (.ifCond .ne 5, 3, [], .inl 0, []) else none
      else
       bif Nat.beq pc 33 then some (.invokevirtual 131, 3, [114, 3, 1, 3, 11], .inl 0, []) else none
     else
      bif Nat.beq pc 31 then some (.iload 5, 2, [], .inl 0, []) else none
    else
     bif Nat.ble 28 pc then
      bif Nat.ble 29 pc then
       bif Nat.beq pc 29 then some (.iload 4, 2, [], .inl 0, []) else none
      else
       bif Nat.beq pc 28 then some (.aload_n 0, 1, [], .inl 0, []) else none
     else
      bif Nat.beq pc 25 then some (.ifCond .ne 14, 3, [], .inl 0, []) else none
  else
   bif Nat.ble 12 pc then
    bif Nat.ble 19 pc then
     bif Nat.ble 21 pc then
      bif Nat.ble 22 pc then
       bif Nat.beq pc 22 then some (.invokevirtual 128, 3, [66, 2, 1, 4, 9], .inl 0, []) else none
      else
       bif Nat.beq pc 21 then some (.lload_n 2, 1, [], .inl 0, []) else none
     else
      bif Nat.beq pc 19 then some (.aload 8, 2, [], .inl 0, []) else none
    else
     bif Nat.ble 13 pc then
      bif Nat.ble 16 pc then
       bif Nat.beq pc 16 then some (.ifCond .eq 23, 3, [], .inl 0, []) else none
      else
       bif Nat.beq pc 13 then some (.invokestatic 67, 3, [30, 1, 1, 6, 100], .inl 0, []) else none
     else
      bif Nat.beq pc 12 then some (.lload_n 2, 1, [], .inl 0, []) else none
   else
    bif Nat.ble 5 pc then
     bif Nat.ble 7 pc then
      bif Nat.ble 9 pc then
       bif Nat.beq pc 9 then some (.ifnull 30, 3, [], .inl 0, []) else none
      else
       bif Nat.beq pc 7 then some (.aload 8, 2, [], .inl 0, []) else none
     else
      bif Nat.beq pc 5 then some (.astore 8, 2, [], .inl 0, []) else none
    else
     bif Nat.ble 1 pc then
      bif Nat.ble 2 pc then
       bif Nat.beq pc 2 then some (.invokevirtual 124, 3, [108, 2, 3, 2, 11], .inl 0, []) else none
      else
       bif Nat.beq pc 1 then some (.iload_n 1, 1, [], .inl 0, []) else none
     else
      bif Nat.beq pc 0 then some (.aload_n 0, 1, [], .inl 0, []) else none
def kX11_without (pc : Nat) : Option Ent := bif Nat.ble 57 pc then none else
 bif Nat.ble 29 pc then
  bif Nat.ble 43 pc then
   bif Nat.ble 49 pc then
    bif Nat.ble 53 pc then
     bif Nat.ble 56 pc then
      bif Nat.beq pc 56 then some (.ireturn, 1, [], .inl 0, []) else none
     else
      bif Nat.beq pc 53 then some (.invokevirtual 52, 3, [14, 1, 1, 1, 0], .inl 0, []) else none
    else
     bif Nat.ble 50 pc then
      bif Nat.beq pc 50 then some (.getfield 135, 3, [9, 576, 2], .inl 0, []) else none
     else
      bif Nat.beq pc 49 then some (.aload_n 3, 1, [], .inl 0, []) else none
   else
    bif Nat.ble 45 pc then
     bif Nat.ble 46 pc then
      bif Nat.beq pc 46 then some (.invokevirtual 151, 3, [68, 2, 0, 3, 9], .inl 0, []) else none
     else
      bif Nat.beq pc 45 then some (.iload_n 2, 1, [], .inl 0, []) else none
    else
     bif Nat.ble 44 pc then
      bif Nat.beq pc 44 then some (.aload_n 3, 1, [], .inl 0, []) else none
     else
      bif Nat.beq pc 43 then some (.pop, 1, [], .inl 0, []) else none
  else
   bif Nat.ble 35 pc then
    bif Nat.ble 39 pc then
     bif Nat.ble 40 pc then
      bif Nat.beq pc 40 then some (.invokevirtual 93, 3, [20, 2, 3, 4, 0], .inl 0, []) else none
     else
      bif Nat.beq pc 39 then some (.iload_n 2, 1, [], .inl 0, []) else none
    else
     bif Nat.ble 36 pc then
      bif Nat.beq pc 36 then some (.getfield 135, 3, [9, 576, 2], .inl 0, []) else none
     else
      bif Nat.beq pc 35 then some (.aload_n 3, 1, [], .inl 0, []) else none
   else
    bif Nat.ble 31 pc then
     bif Nat.ble 32 pc then
      bif Nat.beq pc 32 then some (.invokevirtual 147, 3, [67, 2, 0, 3, 9], .inl 0, []) else none
     else
      bif Nat.beq pc 31 then some (.iload_n 2, 1, [], .inl 0, []) else none
    else
     bif Nat.ble 30 pc then
      bif Nat.beq pc 30 then some (.aload_n 3, 1, [], .inl 0, []) else none
     else
      bif Nat.beq pc 29 then some (.ireturn, 1, [], .inl 0, []) else none
 else
  bif Nat.ble 12 pc then
   bif Nat.ble 20 pc then
    bif Nat.ble 24 pc then
     bif Nat.ble 27 pc then
      bif Nat.beq pc 27 then some (.bipush (-2), 2, [], .inl (-2), []) else none
     else
      bif Nat.beq pc 24 then some (.ifCond .le 6, 3, [], .inl 0, []) else none
    else
     bif Nat.ble 21 pc then
      bif Nat.beq pc 21 then some (.getfield 48, 3, [11, 711, 0], .inl 0, []) else none
     else
      bif Nat.beq pc 20 then some (.aload_n 0, 1, [], .inl 0, []) else none
   else
    bif Nat.ble 18 pc then
     bif Nat.ble 19 pc then
      bif Nat.beq pc 19 then some (.ireturn, 1, [], .inl 0, []) else none
     else
      bif Nat.beq pc 18 then some (.iconst (-1), 1, [], .inl (-1), []) else none
    else
     bif Nat.ble 15 pc then
      bif Nat.beq pc 15 then some (.ifnonnull 5, 3, [], .inl 0, []) else none
     else
      bif Nat.beq pc 12 then some (.invokevirtual 143, 3, [65, 2, 3, 2, 9], .inl 0, []) else none
  else
   bif Nat.ble 6 pc then
    bif Nat.ble 10 pc then
     bif Nat.ble 11 pc then
      bif Nat.beq pc 11 then some (.iload_n 2, 1, [], .inl 0, []) else none
     else
      bif Nat.beq pc 10 then some (.aload_n 3, 1, [], .inl 0, []) else none
    else
     bif Nat.ble 7 pc then
      bif Nat.beq pc 7 then some (.ifnull 11, 3, [], .inl 0, []) else none
     else
      bif Nat.beq pc 6 then some (.aload_n 3, 1, [], .inl 0, []) else none
   else
    bif Nat.ble 2 pc then
     bif Nat.ble 5 pc then
      bif Nat.beq pc 5 then some (.astore_n 3, 1, [], .inl 0, []) else none
     else
      bif Nat.beq pc 2 then some (.invokevirtual 124, 3, [108, 2, 3, 2, 11], .inl 0, []) else none
    else
     bif Nat.ble 1 pc then
      bif Nat.beq pc 1 then some (.iload_n 1, 1, [], .inl 0, []) else none
     else
      bif Nat.beq pc 0 then some (.aload_n 0, 1, [], .inl 0, []) else none
def kX11_becomes (pc : Nat) : Option Ent := bif Nat.ble 87 pc then none else
 bif Nat.ble 40 pc then
  bif Nat.ble 64 pc then
   bif Nat.ble 74 pc then
    bif Nat.ble 81 pc then
     bif Nat.ble 83 pc then
      bif Nat.ble 86 pc then
       bif Nat.beq pc 86 then some (.ireturn, 1, [], .inl 0, []) else none
      else
       bif Nat.beq pc 83 then some (.getfield 158, 3, [8, 513, 0], .inl 0, []) else none
     else
      bif Nat.beq pc 81 then some (.aload 6, 2, [], .inl 0, []) else none
    else
     bif Nat.ble 77 pc then
      bif Nat.ble 80 pc then
       bif Nat.beq pc 80 then some (.pop, 1, [], .inl 0, []) else none
      else
       bif Nat.beq pc 77 then some (.invokevirtual 89, 3, [17, 3, 3, 4, 0], .inl 0, []) else none
     else
      bif Nat.beq pc 74 then some (.invokespecial 140, 3, [63, 5, 0, 7, 8], .inl 0, []) else none
   else
    bif Nat.ble 70 pc then
     bif Nat.ble 71 pc then
      bif Nat.ble 73 pc then
       bif Nat.beq pc 73 then some (.lconst 0, 1, [], .inr (.inl (0)), []) else none
      else
       bif Nat.beq pc 71 then some (.iload 4, 2, [], .inl 0, []) else none
     else
      bif Nat.beq pc 70 then some (.iload_n 3, 1, [], .inl 0, []) else none
    else
     bif Nat.ble 65 pc then
      bif Nat.ble 67 pc then
       bif Nat.beq pc 67 then some (.getfield 154, 3, [8, 512, 1], .inl 0, []) else none
      else
       bif Nat.beq pc 65 then some (.aload 6, 2, [], .inl 0, []) else none
     else
      bif Nat.beq pc 64 then some (.dup, 1, [], .inl 0, []) else none
  else
   bif Nat.ble 51 pc then
    bif Nat.ble 57 pc then
     bif Nat.ble 60 pc then
      bif Nat.ble 61 pc then
       bif Nat.beq pc 61 then some (.new 138, 3, [8, 4], .inl 0, []) else none
      else
       bif Nat.beq pc 60 then some (.iload_n 2, 1, [], .inl 0, []) else none
     else
      bif Nat.beq pc 57 then some (.getfield 135, 3, [9, 576, 2], .inl 0, []) else none
    else
     bif Nat.ble 52 pc then
      bif Nat.ble 55 pc then
       bif Nat.beq pc 55 then some (.aload 5, 2, [], .inl 0, []) else none
      else
       bif Nat.beq pc 52 then some (.invokevirtual 147, 3, [67, 2, 0, 3, 9], .inl 0, []) else none
     else
      bif Nat.beq pc 51 then some (.iload_n 2, 1, [], .inl 0, []) else none
   else
    bif Nat.ble 46 pc then
     bif Nat.ble 48 pc then
      bif Nat.ble 49 pc then
       bif Nat.beq pc 49 then some (.aload 5, 2, [], .inl 0, []) else none
      else
       bif Nat.beq pc 48 then some (.ireturn, 1, [], .inl 0, []) else none
     else
      bif Nat.beq pc 46 then some (.bipush (-2), 2, [], .inl (-2), []) else none
    else
     bif Nat.ble 43 pc then
      bif Nat.beq pc 43 then some (.ifCond .le 6, 3, [], .inl 0, []) else none
     else
      bif Nat.beq pc 40 then some (.getfield 48, 3, [11, 711, 0], .inl 0, []) else none
 else
  bif Nat.ble 20 pc then
   bif Nat.ble 29 pc then
    bif Nat.ble 37 pc then
     bif Nat.ble 38 pc then
      bif Nat.ble 39 pc then
       bif Nat.beq pc 39 then some (.aload_n 0, 1, [], .inl 0, []) else none
      else
       bif Nat.beq pc 38 then some (.ireturn, 1, [], .inl 0, []) else none
     else
      bif Nat.beq pc 37 then some (.iconst (-1), 1, [], .inl (-1), []) else none
    else
     bif Nat.ble 31 pc then
      bif Nat.ble 34 pc then
       bif Nat.beq pc 34 then some (.ifCond .ne 5, 3, [], .inl 0, []) else none
      else
       bif Nat.beq pc 31 then some (.invokevirtual 131, 3, [114, 3, 1, 3, 11], .inl 0, []) else none
     else
      bif Nat.beq pc 29 then some (.iload 4, 2, [], .inl 0, []) else none
   else
    bif Nat.ble 24 pc then
     bif Nat.ble 27 pc then
      bif Nat.ble 28 pc then
       bif Nat.beq pc 28 then some (.iload_n 3, 1, [], .inl 0, []) else none
      else
       bif Nat.beq pc 27 then some (.aload_n 0, 1, [], .inl 0, []) else none
     else
      bif Nat.beq pc 24 then some (.ifnull 13, 3, [], .inl 0, []) else none
    else
     bif Nat.ble 22 pc then
      bif Nat.beq pc 22 then some (.aload 6, 2, [], .inl 0, []) else none
     else
      bif Nat.beq pc 20 then some (.astore 6, 2, [], .inl 0, []) else none
  else
   bif Nat.ble 9 pc then
    bif Nat.ble 14 pc then
     bif Nat.ble 16 pc then
      bif Nat.ble 17 pc then
       bif Nat.beq pc 17 then some (.invokevirtual 143, 3, [65, 2, 3, 2, 9], .inl 0, []) else none
      else
       bif Nat.beq pc 16 then some (.iload_n 2, 1, [], .inl 0, []) else none
     else
      bif Nat.beq pc 14 then some (.aload 5, 2, [], .inl 0, []) else none
    else
     bif Nat.ble 12 pc then
      bif Nat.ble 13 pc then
       bif Nat.beq pc 13 then some (.ireturn, 1, [], .inl 0, []) else none
      else
       bif Nat.beq pc 12 then some (.iconst (-1), 1, [], .inl (-1), []) else none
     else
      bif Nat.beq pc 9 then some (.ifnonnull 5, 3, [], .inl 0, []) else none
   else
    bif Nat.ble 2 pc then
     bif Nat.ble 5 pc then
      bif Nat.ble 7 pc then
       bif Nat.beq pc 7 then some (.aload 5, 2, [], .inl 0, []) else none
      else
       bif Nat.beq pc 5 then some (.astore 5, 2, [], .inl 0, []) else none
     else
      bif Nat.beq pc 2 then some (.invokevirtual 124, 3, [108, 2, 3, 2, 11], .inl 0, []) else none
    else
     bif Nat.ble 1 pc then
      bif Nat.beq pc 1 then some (.iload_n 1, 1, [], .inl 0, []) else none
     else
      bif Nat.beq pc 0 then some (.aload_n 0, 1, [], .inl 0, []) else none
def kX11_check (pc : Nat) : Option Ent := bif Nat.ble 113 pc then none else
 bif Nat.ble 55 pc then
  bif Nat.ble 82 pc then
   bif Nat.ble 95 pc then
    bif Nat.ble 104 pc then
     bif Nat.ble 109 pc then
      bif Nat.ble 112 pc then
       bif Nat.beq pc 112 then some (.ireturn, 1, [], .inl 0, []) else none
      else
       bif Nat.beq pc 109 then some (.invokevirtual 52, 3, [14, 1, 1, 1, 0], .inl 0, []) else none
     else
      bif Nat.ble 106 pc then
       bif Nat.beq pc 106 then some (.getfield 164, 3, [9, 577, 2], .inl 0, []) else none
      else
       bif Nat.beq pc 104 then some (.aload 8, 2, [], .inl 0, []) else none
    else
     bif Nat.ble 100 pc then
      bif Nat.ble 103 pc then
       bif Nat.beq pc 103 then some (.pop, 1, [], .inl 0, []) else none
      else
       bif Nat.beq pc 100 then some (.invokevirtual 59, 3, [19, 2, 1, 2, 0], .inl 0, []) else none
     else
      bif Nat.ble 97 pc then
       bif Nat.beq pc 97 then some (.invokespecial 169, 3, [41, 5, 0, 7, 1], .inl 0, []) else none
      else
       bif Nat.beq pc 95 then some (.lload 6, 2, [], .inl 0, []) else none
   else
    bif Nat.ble 90 pc then
     bif Nat.ble 92 pc then
      bif Nat.ble 93 pc then
       bif Nat.beq pc 93 then some (.lload 4, 2, [], .inl 0, []) else none
      else
       bif Nat.beq pc 92 then some (.iload_n 3, 1, [], .inl 0, []) else none
     else
      bif Nat.ble 91 pc then
       bif Nat.beq pc 91 then some (.iload_n 2, 1, [], .inl 0, []) else none
      else
       bif Nat.beq pc 90 then some (.dup, 1, [], .inl 0, []) else none
    else
     bif Nat.ble 84 pc then
      bif Nat.ble 87 pc then
       bif Nat.beq pc 87 then some (.new 167, 3, [1, 4], .inl 0, []) else none
      else
       bif Nat.beq pc 84 then some (.getfield 164, 3, [9, 577, 2], .inl 0, []) else none
     else
      bif Nat.beq pc 82 then some (.aload 8, 2, [], .inl 0, []) else none
  else
   bif Nat.ble 67 pc then
    bif Nat.ble 75 pc then
     bif Nat.ble 79 pc then
      bif Nat.ble 81 pc then
       bif Nat.beq pc 81 then some (.ireturn, 1, [], .inl 0, []) else none
      else
       bif Nat.beq pc 79 then some (.bipush (-3), 2, [], .inl (-3), []) else none
     else
      bif Nat.ble 76 pc then
       bif Nat.beq pc 76 then some (.if_icmp .lt 6, 3, [], .inl 0, []) else none
      else
       bif Nat.beq pc 75 then some (.iconst 4, 1, [], .inl (4), []) else none
    else
     bif Nat.ble 69 pc then
      bif Nat.ble 72 pc then
       bif Nat.beq pc 72 then some (.invokevirtual 52, 3, [14, 1, 1, 1, 0], .inl 0, []) else none
      else
       bif Nat.beq pc 69 then some (.getfield 164, 3, [9, 577, 2], .inl 0, []) else none
     else
      bif Nat.beq pc 67 then some (.aload 8, 2, [], .inl 0, []) else none
   else
    bif Nat.ble 58 pc then
     bif Nat.ble 64 pc then
      bif Nat.ble 66 pc then
       bif Nat.beq pc 66 then some (.ireturn, 1, [], .inl 0, []) else none
      else
       bif Nat.beq pc 64 then some (.bipush (-2), 2, [], .inl (-2), []) else none
     else
      bif Nat.ble 61 pc then
       bif Nat.beq pc 61 then some (.ifCond .le 6, 3, [], .inl 0, []) else none
      else
       bif Nat.beq pc 58 then some (.getfield 48, 3, [11, 711, 0], .inl 0, []) else none
    else
     bif Nat.ble 56 pc then
      bif Nat.ble 57 pc then
       bif Nat.beq pc 57 then some (.aload_n 0, 1, [], .inl 0, []) else none
      else
       bif Nat.beq pc 56 then some (.ireturn, 1, [], .inl 0, []) else none
     else
      bif Nat.beq pc 55 then some (.iconst (-1), 1, [], .inl (-1), []) else none
 else
  bif Nat.ble 26 pc then
   bif Nat.ble 42 pc then
    bif Nat.ble 49 pc then
     bif Nat.ble 51 pc then
      bif Nat.ble 52 pc then
       bif Nat.beq pc 52 then some (.ifCond .ne 5, 3, [], .inl 0, []) else none
      else
       bif Nat.beq pc 51 then some (.iand, 1, [], .inl 0, []) else none
     else
      bif Nat.ble 50 pc then
       bif Nat.beq pc 50 then some (.iconst 1, 1, [], .inl (1), []) else none
      else
       bif Nat.beq pc 49 then some (.ishr, 1, [], .inl 0, []) else none
    else
     bif Nat.ble 44 pc then
      bif Nat.ble 46 pc then
       bif Nat.beq pc 46 then some (.getfield 158, 3, [8, 513, 0], .inl 0, []) else none
      else
       bif Nat.beq pc 44 then some (.aload 9, 2, [], .inl 0, []) else none
     else
      bif Nat.ble 43 pc then
       bif Nat.beq pc 43 then some (.iaload, 1, [], .inl 0, []) else none
      else
       bif Nat.beq pc 42 then some (.iload_n 3, 1, [], .inl 0, []) else none
   else
    bif Nat.ble 32 pc then
     bif Nat.ble 36 pc then
      bif Nat.ble 39 pc then
       bif Nat.beq pc 39 then some (.getstatic 161, 3, [0], .inl 0, []) else none
      else
       bif Nat.beq pc 36 then some (.ifnull 19, 3, [], .inl 0, []) else none
     else
      bif Nat.ble 34 pc then
       bif Nat.beq pc 34 then some (.aload 9, 2, [], .inl 0, []) else none
      else
       bif Nat.beq pc 32 then some (.astore 9, 2, [], .inl 0, []) else none
    else
     bif Nat.ble 28 pc then
      bif Nat.ble 29 pc then
       bif Nat.beq pc 29 then some (.invokevirtual 143, 3, [65, 2, 3, 2, 9], .inl 0, []) else none
      else
       bif Nat.beq pc 28 then some (.iload_n 2, 1, [], .inl 0, []) else none
     else
      bif Nat.beq pc 26 then some (.aload 8, 2, [], .inl 0, []) else none
  else
   bif Nat.ble 13 pc then
    bif Nat.ble 20 pc then
     bif Nat.ble 24 pc then
      bif Nat.ble 25 pc then
       bif Nat.beq pc 25 then some (.ireturn, 1, [], .inl 0, []) else none
      else
       bif Nat.beq pc 24 then some (.iconst (-1), 1, [], .inl (-1), []) else none
     else
      bif Nat.ble 21 pc then
       bif Nat.beq pc 21 then some (.if_icmp .lt 5, 3, [], .inl 0, []) else none
      else
       bif Nat.beq pc 20 then some (.arraylength, 1, [], .inl 0, []) else none
    else
     bif Nat.ble 16 pc then
      bif Nat.ble 17 pc then
       bif Nat.beq pc 17 then some (.getstatic 161, 3, [0], .inl 0, []) else none
      else
       bif Nat.beq pc 16 then some (.iload_n 3, 1, [], .inl 0, []) else none
     else
      bif Nat.beq pc 13 then some (.ifCond .lt 11, 3, [], .inl 0, []) else none
   else
    bif Nat.ble 5 pc then
     bif Nat.ble 9 pc then
      bif Nat.ble 12 pc then
       bif Nat.beq pc 12 then some (.iload_n 3, 1, [], .inl 0, []) else none
      else
       bif Nat.beq pc 9 then some (.ifnull 15, 3, [], .inl 0, []) else none
     else
      bif Nat.ble 7 pc then
       bif Nat.beq pc 7 then some (.aload 8, 2, [], .inl 0, []) else none
      else
       bif Nat.beq pc 5 then some (.astore 8, 2, [], .inl 0, []) else none
    else
     bif Nat.ble 1 pc then
      bif Nat.ble 2 pc then
       bif Nat.beq pc 2 then some (.invokevirtual 124, 3, [108, 2, 3, 2, 11], .inl 0, []) else none
      else
       bif Nat.beq pc 1 then some (.iload_n 1, 1, [], .inl 0, []) else none
     else
      bif Nat.beq pc 0 then some (.aload_n 0, 1, [], .inl 0, []) else none
def kX11_build (pc : Nat) : Option Ent := bif Nat.ble 160 pc then none else
 bif Nat.ble 75 pc then
  bif Nat.ble 117 pc then
   bif Nat.ble 139 pc then
    bif Nat.ble 150 pc then
     bif Nat.ble 155 pc then
      bif Nat.ble 158 pc then
       bif Nat.ble 159 pc then
        bif Nat.beq pc 159 then some (.ireturn, 1, [], .inl 0, []) else none
       else
        bif Nat.beq pc 158 then some (.iload_n 1, 1, [], .inl 0, []) else none
      else
       bif Nat.beq pc 155 then some (.putfield 172, 3, [11, 721, 0], .inl 0, []) else none
     else
      bif Nat.ble 153 pc then
       bif Nat.ble 154 pc then
        bif Nat.beq pc 154 then some (.iadd, 1, [], .inl 0, []) else none
       else
        bif Nat.beq pc 153 then some (.iconst 1, 1, [], .inl (1), []) else none
      else
       bif Nat.beq pc 150 then some (.getfield 172, 3, [11, 721, 0], .inl 0, []) else none
    else
     bif Nat.ble 145 pc then
      bif Nat.ble 148 pc then
       bif Nat.ble 149 pc then
        bif Nat.beq pc 149 then some (.dup, 1, [], .inl 0, []) else none
       else
        bif Nat.beq pc 148 then some (.aload_n 0, 1, [], .inl 0, []) else none
      else
       bif Nat.beq pc 145 then some (.goto (-28), 3, [], .inl 0, []) else none
     else
      bif Nat.ble 142 pc then
       bif Nat.beq pc 142 then some (.iinc 2 1, 3, [], .inl (1), []) else none
      else
       bif Nat.beq pc 139 then some (.invokevirtual 201, 3, [61, 1, 0, 2, 6], .inl 0, []) else none
   else
    bif Nat.ble 128 pc then
     bif Nat.ble 132 pc then
      bif Nat.ble 133 pc then
       bif Nat.ble 136 pc then
        bif Nat.beq pc 136 then some (.checkcast 199, 3, [6], .inl 0, []) else none
       else
        bif Nat.beq pc 133 then some (.invokevirtual 190, 3, [16, 2, 3, 2, 0], .inl 0, []) else none
      else
       bif Nat.beq pc 132 then some (.iload_n 2, 1, [], .inl 0, []) else none
     else
      bif Nat.ble 129 pc then
       bif Nat.beq pc 129 then some (.getfield 42, 3, [11, 719, 2], .inl 0, []) else none
      else
       bif Nat.beq pc 128 then some (.aload_n 0, 1, [], .inl 0, []) else none
    else
     bif Nat.ble 119 pc then
      bif Nat.ble 122 pc then
       bif Nat.ble 125 pc then
        bif Nat.beq pc 125 then some (.if_icmp .ge 23, 3, [], .inl 0, []) else none
       else
        bif Nat.beq pc 122 then some (.invokevirtual 52, 3, [14, 1, 1, 1, 0], .inl 0, []) else none
      else
       bif Nat.beq pc 119 then some (.getfield 42, 3, [11, 719, 2], .inl 0, []) else none
     else
      bif Nat.ble 118 pc then
       bif Nat.beq pc 118 then some (.aload_n 0, 1, [], .inl 0, []) else none
      else
       bif Nat.beq pc 117 then some (.iload_n 2, 1, [], .inl 0, []) else none
  else
   bif Nat.ble 95 pc then
    bif Nat.ble 106 pc then
     bif Nat.ble 112 pc then
      bif Nat.ble 115 pc then
       bif Nat.ble 116 pc then
        bif Nat.beq pc 116 then some (.istore_n 2, 1, [], .inl 0, []) else none
       else
        bif Nat.beq pc 115 then some (.iconst 0, 1, [], .inl (0), []) else none
      else
       bif Nat.beq pc 112 then some (.goto (-29), 3, [], .inl 0, []) else none
     else
      bif Nat.ble 109 pc then
       bif Nat.beq pc 109 then some (.iinc 2 1, 3, [], .inl (1), []) else none
      else
       bif Nat.beq pc 106 then some (.putfield 196, 3, [9, 578, 3], .inl 0, []) else none
    else
     bif Nat.ble 99 pc then
      bif Nat.ble 102 pc then
       bif Nat.ble 105 pc then
        bif Nat.beq pc 105 then some (.iconst 0, 1, [], .inl (0), []) else none
       else
        bif Nat.beq pc 102 then some (.checkcast 121, 3, [9], .inl 0, []) else none
      else
       bif Nat.beq pc 99 then some (.invokevirtual 190, 3, [16, 2, 3, 2, 0], .inl 0, []) else none
     else
      bif Nat.ble 98 pc then
       bif Nat.beq pc 98 then some (.iload_n 2, 1, [], .inl 0, []) else none
      else
       bif Nat.beq pc 95 then some (.getfield 16, 3, [11, 705, 2], .inl 0, []) else none
   else
    bif Nat.ble 84 pc then
     bif Nat.ble 88 pc then
      bif Nat.ble 91 pc then
       bif Nat.ble 94 pc then
        bif Nat.beq pc 94 then some (.aload_n 0, 1, [], .inl 0, []) else none
       else
        bif Nat.beq pc 91 then some (.if_icmp .ge 24, 3, [], .inl 0, []) else none
      else
       bif Nat.beq pc 88 then some (.invokevirtual 52, 3, [14, 1, 1, 1, 0], .inl 0, []) else none
     else
      bif Nat.ble 85 pc then
       bif Nat.beq pc 85 then some (.getfield 16, 3, [11, 705, 2], .inl 0, []) else none
      else
       bif Nat.beq pc 84 then some (.aload_n 0, 1, [], .inl 0, []) else none
    else
     bif Nat.ble 81 pc then
      bif Nat.ble 82 pc then
       bif Nat.ble 83 pc then
        bif Nat.beq pc 83 then some (.iload_n 2, 1, [], .inl 0, []) else none
       else
        bif Nat.beq pc 82 then some (.istore_n 2, 1, [], .inl 0, []) else none
      else
       bif Nat.beq pc 81 then some (.iconst 0, 1, [], .inl (0), []) else none
     else
      bif Nat.ble 78 pc then
       bif Nat.beq pc 78 then some (.goto (-28), 3, [], .inl 0, []) else none
      else
       bif Nat.beq pc 75 then some (.iinc 2 1, 3, [], .inl (1), []) else none
 else
  bif Nat.ble 35 pc then
   bif Nat.ble 51 pc then
    bif Nat.ble 62 pc then
     bif Nat.ble 66 pc then
      bif Nat.ble 69 pc then
       bif Nat.ble 72 pc then
        bif Nat.beq pc 72 then some (.invokevirtual 193, 3, [48, 1, 0, 1, 3], .inl 0, []) else none
       else
        bif Nat.beq pc 69 then some (.checkcast 56, 3, [3], .inl 0, []) else none
      else
       bif Nat.beq pc 66 then some (.invokevirtual 190, 3, [16, 2, 3, 2, 0], .inl 0, []) else none
     else
      bif Nat.ble 65 pc then
       bif Nat.beq pc 65 then some (.iload_n 2, 1, [], .inl 0, []) else none
      else
       bif Nat.beq pc 62 then some (.getfield 10, 3, [11, 704, 2], .inl 0, []) else none
    else
     bif Nat.ble 55 pc then
      bif Nat.ble 58 pc then
       bif Nat.ble 61 pc then
        bif Nat.beq pc 61 then some (.aload_n 0, 1, [], .inl 0, []) else none
       else
        bif Nat.beq pc 58 then some (.if_icmp .ge 23, 3, [], .inl 0, []) else none
      else
       bif Nat.beq pc 55 then some (.invokevirtual 52, 3, [14, 1, 1, 1, 0], .inl 0, []) else none
     else
      bif Nat.ble 52 pc then
       bif Nat.beq pc 52 then some (.getfield 10, 3, [11, 704, 2], .inl 0, []) else none
      else
       bif Nat.beq pc 51 then some (.aload_n 0, 1, [], .inl 0, []) else none
   else
    bif Nat.ble 44 pc then
     bif Nat.ble 48 pc then
      bif Nat.ble 49 pc then
       bif Nat.ble 50 pc then
        bif Nat.beq pc 50 then some (.iload_n 2, 1, [], .inl 0, []) else none
       else
        bif Nat.beq pc 49 then some (.istore_n 2, 1, [], .inl 0, []) else none
      else
       bif Nat.beq pc 48 then some (.iconst 0, 1, [], .inl (0), []) else none
     else
      bif Nat.ble 45 pc then
       bif Nat.beq pc 45 then some (.putfield 187, 3, [11, 715, 0], .inl 0, []) else none
      else
       bif Nat.beq pc 44 then some (.iconst 0, 1, [], .inl (0), []) else none
    else
     bif Nat.ble 39 pc then
      bif Nat.ble 40 pc then
       bif Nat.ble 43 pc then
        bif Nat.beq pc 43 then some (.aload_n 0, 1, [], .inl 0, []) else none
       else
        bif Nat.beq pc 40 then some (.putfield 184, 3, [11, 709, 0], .inl 0, []) else none
      else
       bif Nat.beq pc 39 then some (.iconst 0, 1, [], .inl (0), []) else none
     else
      bif Nat.ble 38 pc then
       bif Nat.beq pc 38 then some (.aload_n 0, 1, [], .inl 0, []) else none
      else
       bif Nat.beq pc 35 then some (.putfield 181, 3, [11, 708, 0], .inl 0, []) else none
  else
   bif Nat.ble 19 pc then
    bif Nat.ble 28 pc then
     bif Nat.ble 30 pc then
      bif Nat.ble 33 pc then
       bif Nat.ble 34 pc then
        bif Nat.beq pc 34 then some (.iconst 0, 1, [], .inl (0), []) else none
       else
        bif Nat.beq pc 33 then some (.aload_n 0, 1, [], .inl 0, []) else none
      else
       bif Nat.beq pc 30 then some (.putfield 178, 3, [11, 713, 0], .inl 0, []) else none
     else
      bif Nat.ble 29 pc then
       bif Nat.beq pc 29 then some (.iconst 0, 1, [], .inl (0), []) else none
      else
       bif Nat.beq pc 28 then some (.aload_n 0, 1, [], .inl 0, []) else none
    else
     bif Nat.ble 23 pc then
      bif Nat.ble 24 pc then
       bif Nat.ble 25 pc then
        bif Nat.beq pc 25 then some (.putfield 175, 3, [11, 712, 0], .inl 0, []) else none
       else
        bif Nat.beq pc 24 then some (.iconst 0, 1, [], .inl (0), []) else none
      else
       bif Nat.beq pc 23 then some (.aload_n 0, 1, [], .inl 0, []) else none
     else
      bif Nat.ble 20 pc then
       bif Nat.beq pc 20 then some (.putfield 48, 3, [11, 711, 0], .inl 0, []) else none
      else
       bif Nat.beq pc 19 then some (.iconst 0, 1, [], .inl (0), []) else none
   else
    bif Nat.ble 12 pc then
     bif Nat.ble 14 pc then
      bif Nat.ble 17 pc then
       bif Nat.ble 18 pc then
        bif Nat.beq pc 18 then some (.aload_n 0, 1, [], .inl 0, []) else none
       else
        bif Nat.beq pc 17 then some (.istore_n 1, 1, [], .inl 0, []) else none
      else
       bif Nat.beq pc 14 then some (.getfield 48, 3, [11, 711, 0], .inl 0, []) else none
     else
      bif Nat.ble 13 pc then
       bif Nat.beq pc 13 then some (.aload_n 0, 1, [], .inl 0, []) else none
      else
       bif Nat.beq pc 12 then some (.ireturn, 1, [], .inl 0, []) else none
    else
     bif Nat.ble 4 pc then
      bif Nat.ble 7 pc then
       bif Nat.ble 10 pc then
        bif Nat.beq pc 10 then some (.bipush (-3), 2, [], .inl (-3), []) else none
       else
        bif Nat.beq pc 7 then some (.if_icmp .lt 6, 3, [], .inl 0, []) else none
      else
       bif Nat.beq pc 4 then some (.sipush 1000, 3, [], .inl (1000), []) else none
     else
      bif Nat.ble 1 pc then
       bif Nat.beq pc 1 then some (.getfield 172, 3, [11, 721, 0], .inl 0, []) else none
      else
       bif Nat.beq pc 0 then some (.aload_n 0, 1, [], .inl 0, []) else none
def kX11_row (pc : Nat) : Option Ent := bif Nat.ble 56 pc then none else
 bif Nat.ble 30 pc then
  bif Nat.ble 44 pc then
   bif Nat.ble 50 pc then
    bif Nat.ble 52 pc then
     bif Nat.ble 55 pc then
      bif Nat.beq pc 55 then some (.ireturn, 1, [], .inl 0, []) else none
     else
      bif Nat.beq pc 52 then some (.invokevirtual 208, 3, [120, 3, 1, 3, 11], .inl 0, []) else none
    else
     bif Nat.ble 51 pc then
      bif Nat.beq pc 51 then some (.iload_n 2, 1, [], .inl 0, []) else none
     else
      bif Nat.beq pc 50 then some (.iload_n 1, 1, [], .inl 0, []) else none
   else
    bif Nat.ble 46 pc then
     bif Nat.ble 49 pc then
      bif Nat.beq pc 49 then some (.aload_n 0, 1, [], .inl 0, []) else none
     else
      bif Nat.beq pc 46 then some (.putfield 184, 3, [11, 709, 0], .inl 0, []) else none
    else
     bif Nat.ble 45 pc then
      bif Nat.beq pc 45 then some (.iadd, 1, [], .inl 0, []) else none
     else
      bif Nat.beq pc 44 then some (.iconst 1, 1, [], .inl (1), []) else none
  else
   bif Nat.ble 38 pc then
    bif Nat.ble 40 pc then
     bif Nat.ble 41 pc then
      bif Nat.beq pc 41 then some (.getfield 184, 3, [11, 709, 0], .inl 0, []) else none
     else
      bif Nat.beq pc 40 then some (.dup, 1, [], .inl 0, []) else none
    else
     bif Nat.ble 39 pc then
      bif Nat.beq pc 39 then some (.aload_n 0, 1, [], .inl 0, []) else none
     else
      bif Nat.beq pc 38 then some (.ireturn, 1, [], .inl 0, []) else none
   else
    bif Nat.ble 34 pc then
     bif Nat.ble 35 pc then
      bif Nat.beq pc 35 then some (.invokestatic 204, 3, [113, 1, 1, 1, 100], .inl 0, []) else none
     else
      bif Nat.beq pc 34 then some (.iconst 4, 1, [], .inl (4), []) else none
    else
     bif Nat.ble 31 pc then
      bif Nat.beq pc 31 then some (.ifCond .ge 8, 3, [], .inl 0, []) else none
     else
      bif Nat.beq pc 30 then some (.iload_n 2, 1, [], .inl 0, []) else none
 else
  bif Nat.ble 16 pc then
   bif Nat.ble 22 pc then
    bif Nat.ble 27 pc then
     bif Nat.ble 29 pc then
      bif Nat.beq pc 29 then some (.ireturn, 1, [], .inl 0, []) else none
     else
      bif Nat.beq pc 27 then some (.bipush (-3), 2, [], .inl (-3), []) else none
    else
     bif Nat.ble 24 pc then
      bif Nat.beq pc 24 then some (.if_icmp .lt 6, 3, [], .inl 0, []) else none
     else
      bif Nat.beq pc 22 then some (.bipush 40, 2, [], .inl (40), []) else none
   else
    bif Nat.ble 18 pc then
     bif Nat.ble 19 pc then
      bif Nat.beq pc 19 then some (.getfield 184, 3, [11, 709, 0], .inl 0, []) else none
     else
      bif Nat.beq pc 18 then some (.aload_n 0, 1, [], .inl 0, []) else none
    else
     bif Nat.ble 17 pc then
      bif Nat.beq pc 17 then some (.ireturn, 1, [], .inl 0, []) else none
     else
      bif Nat.beq pc 16 then some (.iconst (-1), 1, [], .inl (-1), []) else none
  else
   bif Nat.ble 7 pc then
    bif Nat.ble 11 pc then
     bif Nat.ble 13 pc then
      bif Nat.beq pc 13 then some (.if_icmp .le 5, 3, [], .inl 0, []) else none
     else
      bif Nat.beq pc 11 then some (.bipush 16, 2, [], .inl (16), []) else none
    else
     bif Nat.ble 10 pc then
      bif Nat.beq pc 10 then some (.iload_n 2, 1, [], .inl 0, []) else none
     else
      bif Nat.beq pc 7 then some (.if_icmp .gt 9, 3, [], .inl 0, []) else none
   else
    bif Nat.ble 4 pc then
     bif Nat.ble 5 pc then
      bif Nat.beq pc 5 then some (.bipush 7, 2, [], .inl (7), []) else none
     else
      bif Nat.beq pc 4 then some (.iload_n 1, 1, [], .inl 0, []) else none
    else
     bif Nat.ble 1 pc then
      bif Nat.beq pc 1 then some (.ifCond .lt 15, 3, [], .inl 0, []) else none
     else
      bif Nat.beq pc 0 then some (.iload_n 1, 1, [], .inl 0, []) else none
def kX11_put (pc : Nat) : Option Ent := bif Nat.ble 48 pc then none else
 bif Nat.ble 22 pc then
  bif Nat.ble 36 pc then
   bif Nat.ble 42 pc then
    bif Nat.ble 46 pc then
     bif Nat.ble 47 pc then
      bif Nat.beq pc 47 then some (.ireturn, 1, [], .inl 0, []) else none
     else
      bif Nat.beq pc 46 then some (.iconst 1, 1, [], .inl (1), []) else none
    else
     bif Nat.ble 45 pc then
      bif Nat.beq pc 45 then some (.lastore, 1, [], .inl 0, []) else none
     else
      bif Nat.beq pc 42 then some (.invokestatic 227, 3, [31, 2, 2, 3, 100], .inl 0, []) else none
   else
    bif Nat.ble 38 pc then
     bif Nat.ble 41 pc then
      bif Nat.beq pc 41 then some (.lload_n 3, 1, [], .inl 0, []) else none
     else
      bif Nat.beq pc 38 then some (.getfield 224, 3, [10, 640, 0], .inl 0, []) else none
    else
     bif Nat.beq pc 36 then some (.aload 5, 2, [], .inl 0, []) else none
  else
   bif Nat.ble 29 pc then
    bif Nat.ble 32 pc then
     bif Nat.ble 35 pc then
      bif Nat.beq pc 35 then some (.iload_n 2, 1, [], .inl 0, []) else none
     else
      bif Nat.beq pc 32 then some (.getfield 221, 3, [10, 642, 2], .inl 0, []) else none
    else
     bif Nat.ble 30 pc then
      bif Nat.beq pc 30 then some (.aload 5, 2, [], .inl 0, []) else none
     else
      bif Nat.beq pc 29 then some (.ireturn, 1, [], .inl 0, []) else none
   else
    bif Nat.ble 25 pc then
     bif Nat.ble 26 pc then
      bif Nat.beq pc 26 then some (.invokestatic 204, 3, [113, 1, 1, 1, 100], .inl 0, []) else none
     else
      bif Nat.beq pc 25 then some (.iconst 5, 1, [], .inl (5), []) else none
    else
     bif Nat.beq pc 22 then some (.ifCond .ne 8, 3, [], .inl 0, []) else none
 else
  bif Nat.ble 10 pc then
   bif Nat.ble 15 pc then
    bif Nat.ble 18 pc then
     bif Nat.ble 19 pc then
      bif Nat.beq pc 19 then some (.invokevirtual 216, 3, [71, 2, 1, 3, 10], .inl 0, []) else none
     else
      bif Nat.beq pc 18 then some (.i2l, 1, [], .inl 0, []) else none
    else
     bif Nat.ble 17 pc then
      bif Nat.beq pc 17 then some (.iload_n 2, 1, [], .inl 0, []) else none
     else
      bif Nat.beq pc 15 then some (.aload 5, 2, [], .inl 0, []) else none
   else
    bif Nat.ble 13 pc then
     bif Nat.ble 14 pc then
      bif Nat.beq pc 14 then some (.ireturn, 1, [], .inl 0, []) else none
     else
      bif Nat.beq pc 13 then some (.iconst (-1), 1, [], .inl (-1), []) else none
    else
     bif Nat.beq pc 10 then some (.ifnonnull 5, 3, [], .inl 0, []) else none
  else
   bif Nat.ble 3 pc then
    bif Nat.ble 6 pc then
     bif Nat.ble 8 pc then
      bif Nat.beq pc 8 then some (.aload 5, 2, [], .inl 0, []) else none
     else
      bif Nat.beq pc 6 then some (.astore 5, 2, [], .inl 0, []) else none
    else
     bif Nat.beq pc 3 then some (.invokevirtual 212, 3, [110, 2, 3, 3, 11], .inl 0, []) else none
   else
    bif Nat.ble 1 pc then
     bif Nat.ble 2 pc then
      bif Nat.beq pc 2 then some (.i2l, 1, [], .inl 0, []) else none
     else
      bif Nat.beq pc 1 then some (.iload_n 1, 1, [], .inl 0, []) else none
    else
     bif Nat.beq pc 0 then some (.aload_n 0, 1, [], .inl 0, []) else none
def kX11_item (pc : Nat) : Option Ent := bif Nat.ble 31 pc then none else
 bif Nat.ble 13 pc then
  bif Nat.ble 24 pc then
   bif Nat.ble 26 pc then
    bif Nat.ble 29 pc then
     bif Nat.ble 30 pc then
      bif Nat.beq pc 30 then some (.lreturn, 1, [], .inl 0, []) else none
     else
      bif Nat.beq pc 29 then some (.lconst 0, 1, [], .inr (.inl (0)), []) else none
    else
     bif Nat.beq pc 26 then some (.goto 4, 3, [], .inl 0, []) else none
   else
    bif Nat.ble 25 pc then
     bif Nat.beq pc 25 then some (.laload, 1, [], .inl 0, []) else none
    else
     bif Nat.beq pc 24 then some (.iload_n 2, 1, [], .inl 0, []) else none
  else
   bif Nat.ble 17 pc then
    bif Nat.ble 20 pc then
     bif Nat.ble 21 pc then
      bif Nat.beq pc 21 then some (.getfield 221, 3, [10, 642, 2], .inl 0, []) else none
     else
      bif Nat.beq pc 20 then some (.aload_n 3, 1, [], .inl 0, []) else none
    else
     bif Nat.beq pc 17 then some (.ifCond .eq 12, 3, [], .inl 0, []) else none
   else
    bif Nat.ble 14 pc then
     bif Nat.beq pc 14 then some (.invokevirtual 216, 3, [71, 2, 1, 3, 10], .inl 0, []) else none
    else
     bif Nat.beq pc 13 then some (.i2l, 1, [], .inl 0, []) else none
 else
  bif Nat.ble 6 pc then
   bif Nat.ble 8 pc then
    bif Nat.ble 11 pc then
     bif Nat.ble 12 pc then
      bif Nat.beq pc 12 then some (.iload_n 2, 1, [], .inl 0, []) else none
     else
      bif Nat.beq pc 11 then some (.aload_n 3, 1, [], .inl 0, []) else none
    else
     bif Nat.beq pc 8 then some (.ifnull 21, 3, [], .inl 0, []) else none
   else
    bif Nat.ble 7 pc then
     bif Nat.beq pc 7 then some (.aload_n 3, 1, [], .inl 0, []) else none
    else
     bif Nat.beq pc 6 then some (.astore_n 3, 1, [], .inl 0, []) else none
  else
   bif Nat.ble 2 pc then
    bif Nat.ble 3 pc then
     bif Nat.beq pc 3 then some (.invokevirtual 212, 3, [110, 2, 3, 3, 11], .inl 0, []) else none
    else
     bif Nat.beq pc 2 then some (.i2l, 1, [], .inl 0, []) else none
   else
    bif Nat.ble 1 pc then
     bif Nat.beq pc 1 then some (.iload_n 1, 1, [], .inl 0, []) else none
    else
     bif Nat.beq pc 0 then some (.aload_n 0, 1, [], .inl 0, []) else none
def kX11_size (pc : Nat) : Option Ent := bif Nat.ble 20 pc then none else
 bif Nat.ble 8 pc then
  bif Nat.ble 15 pc then
   bif Nat.ble 16 pc then
    bif Nat.ble 19 pc then
     bif Nat.beq pc 19 then some (.ireturn, 1, [], .inl 0, []) else none
    else
     bif Nat.beq pc 16 then some (.getfield 231, 3, [10, 641, 0], .inl 0, []) else none
   else
    bif Nat.beq pc 15 then some (.aload_n 2, 1, [], .inl 0, []) else none
  else
   bif Nat.ble 11 pc then
    bif Nat.ble 12 pc then
     bif Nat.beq pc 12 then some (.goto 7, 3, [], .inl 0, []) else none
    else
     bif Nat.beq pc 11 then some (.iconst (-1), 1, [], .inl (-1), []) else none
   else
    bif Nat.beq pc 8 then some (.ifnonnull 7, 3, [], .inl 0, []) else none
 else
  bif Nat.ble 3 pc then
   bif Nat.ble 6 pc then
    bif Nat.ble 7 pc then
     bif Nat.beq pc 7 then some (.aload_n 2, 1, [], .inl 0, []) else none
    else
     bif Nat.beq pc 6 then some (.astore_n 2, 1, [], .inl 0, []) else none
   else
    bif Nat.beq pc 3 then some (.invokevirtual 212, 3, [110, 2, 3, 3, 11], .inl 0, []) else none
  else
   bif Nat.ble 1 pc then
    bif Nat.ble 2 pc then
     bif Nat.beq pc 2 then some (.i2l, 1, [], .inl 0, []) else none
    else
     bif Nat.beq pc 1 then some (.iload_n 1, 1, [], .inl 0, []) else none
   else
    bif Nat.beq pc 0 then some (.aload_n 0, 1, [], .inl 0, []) else none
def kX11_give (pc : Nat) : Option Ent := bif Nat.ble 21 pc then none else
 bif Nat.ble 12 pc then
  bif Nat.ble 17 pc then
   bif Nat.ble 19 pc then
    bif Nat.ble 20 pc then
     bif Nat.beq pc 20 then some (.ireturn, 1, [], .inl 0, []) else none
    else
     bif Nat.beq pc 19 then some (.iconst 1, 1, [], .inl (1), []) else none
   else
    bif Nat.ble 18 pc then
     bif Nat.beq pc 18 then some (.lastore, 1, [], .inl 0, []) else none
    else
     bif Nat.beq pc 17 then some (.lload_n 2, 1, [], .inl 0, []) else none
  else
   bif Nat.ble 13 pc then
    bif Nat.ble 16 pc then
     bif Nat.beq pc 16 then some (.iload_n 1, 1, [], .inl 0, []) else none
    else
     bif Nat.beq pc 13 then some (.getfield 32, 3, [11, 716, 2], .inl 0, []) else none
   else
    bif Nat.beq pc 12 then some (.aload_n 0, 1, [], .inl 0, []) else none
 else
  bif Nat.ble 5 pc then
   bif Nat.ble 10 pc then
    bif Nat.ble 11 pc then
     bif Nat.beq pc 11 then some (.ireturn, 1, [], .inl 0, []) else none
    else
     bif Nat.beq pc 10 then some (.iconst (-1), 1, [], .inl (-1), []) else none
   else
    bif Nat.ble 7 pc then
     bif Nat.beq pc 7 then some (.if_icmp .lt 5, 3, [], .inl 0, []) else none
    else
     bif Nat.beq pc 5 then some (.bipush 6, 2, [], .inl (6), []) else none
  else
   bif Nat.ble 1 pc then
    bif Nat.ble 4 pc then
     bif Nat.beq pc 4 then some (.iload_n 1, 1, [], .inl 0, []) else none
    else
     bif Nat.beq pc 1 then some (.ifCond .lt 9, 3, [], .inl 0, []) else none
   else
    bif Nat.beq pc 0 then some (.iload_n 1, 1, [], .inl 0, []) else none
def kX11_make (pc : Nat) : Option Ent := bif Nat.ble 107 pc then none else
 bif Nat.ble 51 pc then
  bif Nat.ble 82 pc then
   bif Nat.ble 95 pc then
    bif Nat.ble 101 pc then
     bif Nat.ble 105 pc then
      bif Nat.ble 106 pc then
       bif Nat.beq pc 106 then some (.ireturn, 1, [], .inl 0, []) else none
      else
       bif Nat.beq pc 105 then some (.iload_n 3, 1, [], .inl 0, []) else none
     else
      bif Nat.ble 102 pc then
       bif Nat.beq pc 102 then some (.putfield 175, 3, [11, 712, 0], .inl 0, []) else none
      else
       bif Nat.beq pc 101 then some (.iadd, 1, [], .inl 0, []) else none
    else
     bif Nat.ble 97 pc then
      bif Nat.ble 100 pc then
       bif Nat.beq pc 100 then some (.iconst 1, 1, [], .inl (1), []) else none
      else
       bif Nat.beq pc 97 then some (.getfield 175, 3, [11, 712, 0], .inl 0, []) else none
     else
      bif Nat.ble 96 pc then
       bif Nat.beq pc 96 then some (.dup, 1, [], .inl 0, []) else none
      else
       bif Nat.beq pc 95 then some (.aload_n 0, 1, [], .inl 0, []) else none
   else
    bif Nat.ble 87 pc then
     bif Nat.ble 91 pc then
      bif Nat.ble 92 pc then
       bif Nat.beq pc 92 then some (.ifCond .lt 13, 3, [], .inl 0, []) else none
      else
       bif Nat.beq pc 91 then some (.iload_n 3, 1, [], .inl 0, []) else none
     else
      bif Nat.ble 90 pc then
       bif Nat.beq pc 90 then some (.istore_n 3, 1, [], .inl 0, []) else none
      else
       bif Nat.beq pc 87 then some (.invokevirtual 238, 3, [126, 4, 1, 9, 11], .inl 0, []) else none
    else
     bif Nat.ble 83 pc then
      bif Nat.ble 86 pc then
       bif Nat.beq pc 86 then some (.iconst (-1), 1, [], .inl (-1), []) else none
      else
       bif Nat.beq pc 83 then some (.getfield 36, 3, [11, 717, 2], .inl 0, []) else none
     else
      bif Nat.beq pc 82 then some (.aload_n 0, 1, [], .inl 0, []) else none
  else
   bif Nat.ble 68 pc then
    bif Nat.ble 74 pc then
     bif Nat.ble 80 pc then
      bif Nat.ble 81 pc then
       bif Nat.beq pc 81 then some (.iload_n 1, 1, [], .inl 0, []) else none
      else
       bif Nat.beq pc 80 then some (.aload_n 0, 1, [], .inl 0, []) else none
     else
      bif Nat.ble 77 pc then
       bif Nat.beq pc 77 then some (.goto (-43), 3, [], .inl 0, []) else none
      else
       bif Nat.beq pc 74 then some (.iinc 3 1, 3, [], .inl (1), []) else none
    else
     bif Nat.ble 70 pc then
      bif Nat.ble 73 pc then
       bif Nat.beq pc 73 then some (.lastore, 1, [], .inl 0, []) else none
      else
       bif Nat.beq pc 70 then some (.invokestatic 227, 3, [31, 2, 2, 3, 100], .inl 0, []) else none
     else
      bif Nat.ble 69 pc then
       bif Nat.beq pc 69 then some (.laload, 1, [], .inl 0, []) else none
      else
       bif Nat.beq pc 68 then some (.iload_n 3, 1, [], .inl 0, []) else none
   else
    bif Nat.ble 58 pc then
     bif Nat.ble 64 pc then
      bif Nat.ble 65 pc then
       bif Nat.beq pc 65 then some (.getfield 32, 3, [11, 716, 2], .inl 0, []) else none
      else
       bif Nat.beq pc 64 then some (.aload_n 0, 1, [], .inl 0, []) else none
     else
      bif Nat.ble 61 pc then
       bif Nat.beq pc 61 then some (.getfield 158, 3, [8, 513, 0], .inl 0, []) else none
      else
       bif Nat.beq pc 58 then some (.checkcast 138, 3, [8], .inl 0, []) else none
    else
     bif Nat.ble 54 pc then
      bif Nat.ble 55 pc then
       bif Nat.beq pc 55 then some (.invokevirtual 190, 3, [16, 2, 3, 2, 0], .inl 0, []) else none
      else
       bif Nat.beq pc 54 then some (.iload_n 3, 1, [], .inl 0, []) else none
     else
      bif Nat.beq pc 51 then some (.getfield 135, 3, [9, 576, 2], .inl 0, []) else none
 else
  bif Nat.ble 24 pc then
   bif Nat.ble 35 pc then
    bif Nat.ble 45 pc then
     bif Nat.ble 49 pc then
      bif Nat.ble 50 pc then
       bif Nat.beq pc 50 then some (.aload_n 2, 1, [], .inl 0, []) else none
      else
       bif Nat.beq pc 49 then some (.iload_n 3, 1, [], .inl 0, []) else none
     else
      bif Nat.ble 46 pc then
       bif Nat.beq pc 46 then some (.getfield 36, 3, [11, 717, 2], .inl 0, []) else none
      else
       bif Nat.beq pc 45 then some (.aload_n 0, 1, [], .inl 0, []) else none
    else
     bif Nat.ble 39 pc then
      bif Nat.ble 42 pc then
       bif Nat.beq pc 42 then some (.if_icmp .ge 38, 3, [], .inl 0, []) else none
      else
       bif Nat.beq pc 39 then some (.invokevirtual 52, 3, [14, 1, 1, 1, 0], .inl 0, []) else none
     else
      bif Nat.ble 36 pc then
       bif Nat.beq pc 36 then some (.getfield 135, 3, [9, 576, 2], .inl 0, []) else none
      else
       bif Nat.beq pc 35 then some (.aload_n 2, 1, [], .inl 0, []) else none
   else
    bif Nat.ble 31 pc then
     bif Nat.ble 33 pc then
      bif Nat.ble 34 pc then
       bif Nat.beq pc 34 then some (.iload_n 3, 1, [], .inl 0, []) else none
      else
       bif Nat.beq pc 33 then some (.istore_n 3, 1, [], .inl 0, []) else none
     else
      bif Nat.ble 32 pc then
       bif Nat.beq pc 32 then some (.iconst 0, 1, [], .inl (0), []) else none
      else
       bif Nat.beq pc 31 then some (.ireturn, 1, [], .inl 0, []) else none
    else
     bif Nat.ble 26 pc then
      bif Nat.ble 29 pc then
       bif Nat.beq pc 29 then some (.bipush (-3), 2, [], .inl (-3), []) else none
      else
       bif Nat.beq pc 26 then some (.if_icmp .lt 6, 3, [], .inl 0, []) else none
     else
      bif Nat.beq pc 24 then some (.bipush 100, 2, [], .inl (100), []) else none
  else
   bif Nat.ble 11 pc then
    bif Nat.ble 18 pc then
     bif Nat.ble 20 pc then
      bif Nat.ble 21 pc then
       bif Nat.beq pc 21 then some (.getfield 175, 3, [11, 712, 0], .inl 0, []) else none
      else
       bif Nat.beq pc 20 then some (.aload_n 0, 1, [], .inl 0, []) else none
     else
      bif Nat.ble 19 pc then
       bif Nat.beq pc 19 then some (.ireturn, 1, [], .inl 0, []) else none
      else
       bif Nat.beq pc 18 then some (.iconst (-1), 1, [], .inl (-1), []) else none
    else
     bif Nat.ble 12 pc then
      bif Nat.ble 15 pc then
       bif Nat.beq pc 15 then some (.ifCond .ne 5, 3, [], .inl 0, []) else none
      else
       bif Nat.beq pc 12 then some (.invokevirtual 234, 3, [121, 2, 1, 3, 11], .inl 0, []) else none
     else
      bif Nat.beq pc 11 then some (.aload_n 2, 1, [], .inl 0, []) else none
   else
    bif Nat.ble 5 pc then
     bif Nat.ble 7 pc then
      bif Nat.ble 10 pc then
       bif Nat.beq pc 10 then some (.aload_n 0, 1, [], .inl 0, []) else none
      else
       bif Nat.beq pc 7 then some (.ifnull 11, 3, [], .inl 0, []) else none
     else
      bif Nat.ble 6 pc then
       bif Nat.beq pc 6 then some (.aload_n 2, 1, [], .inl 0, []) else none
      else
       bif Nat.beq pc 5 then some (.astore_n 2, 1, [], .inl 0, []) else none
    else
     bif Nat.ble 1 pc then
      bif Nat.ble 2 pc then
       bif Nat.beq pc 2 then some (.invokevirtual 124, 3, [108, 2, 3, 2, 11], .inl 0, []) else none
      else
       bif Nat.beq pc 1 then some (.iload_n 1, 1, [], .inl 0, []) else none
     else
      bif Nat.beq pc 0 then some (.aload_n 0, 1, [], .inl 0, []) else none
def kX11_cause (pc : Nat) : Option Ent := bif Nat.ble 25 pc then none else
 bif Nat.ble 13 pc then
  bif Nat.ble 18 pc then
   bif Nat.ble 22 pc then
    bif Nat.ble 24 pc then
     bif Nat.beq pc 24 then some (.ireturn, 1, [], .inl 0, []) else none
    else
     bif Nat.beq pc 22 then some (.ldc 244, 2, [], .inl (-2147483648), []) else none
   else
    bif Nat.ble 19 pc then
     bif Nat.beq pc 19 then some (.goto 5, 3, [], .inl 0, []) else none
    else
     bif Nat.beq pc 18 then some (.iaload, 1, [], .inl 0, []) else none
  else
   bif Nat.ble 14 pc then
    bif Nat.ble 17 pc then
     bif Nat.beq pc 17 then some (.iload_n 1, 1, [], .inl 0, []) else none
    else
     bif Nat.beq pc 14 then some (.getfield 39, 3, [11, 718, 2], .inl 0, []) else none
   else
    bif Nat.beq pc 13 then some (.aload_n 0, 1, [], .inl 0, []) else none
 else
  bif Nat.ble 5 pc then
   bif Nat.ble 9 pc then
    bif Nat.ble 10 pc then
     bif Nat.beq pc 10 then some (.if_icmp .ge 12, 3, [], .inl 0, []) else none
    else
     bif Nat.beq pc 9 then some (.arraylength, 1, [], .inl 0, []) else none
   else
    bif Nat.ble 6 pc then
     bif Nat.beq pc 6 then some (.getfield 39, 3, [11, 718, 2], .inl 0, []) else none
    else
     bif Nat.beq pc 5 then some (.aload_n 0, 1, [], .inl 0, []) else none
  else
   bif Nat.ble 1 pc then
    bif Nat.ble 4 pc then
     bif Nat.beq pc 4 then some (.iload_n 1, 1, [], .inl 0, []) else none
    else
     bif Nat.beq pc 1 then some (.ifCond .lt 21, 3, [], .inl 0, []) else none
   else
    bif Nat.beq pc 0 then some (.iload_n 1, 1, [], .inl 0, []) else none
def kX11_told (pc : Nat) : Option Ent := bif Nat.ble 52 pc then none else
 bif Nat.ble 23 pc then
  bif Nat.ble 39 pc then
   bif Nat.ble 44 pc then
    bif Nat.ble 48 pc then
     bif Nat.ble 51 pc then
      bif Nat.beq pc 51 then some (.lreturn, 1, [], .inl 0, []) else none
     else
      bif Nat.beq pc 48 then some (.ldc2_w 251, 3, [], .inr (.inl (-9223372036854775808)), []) else none
    else
     bif Nat.ble 45 pc then
      bif Nat.beq pc 45 then some (.goto 6, 3, [], .inl 0, []) else none
     else
      bif Nat.beq pc 44 then some (.laload, 1, [], .inl 0, []) else none
   else
    bif Nat.ble 40 pc then
     bif Nat.ble 43 pc then
      bif Nat.beq pc 43 then some (.iload_n 2, 1, [], .inl 0, []) else none
     else
      bif Nat.beq pc 40 then some (.getfield 258, 3, [7, 449, 2], .inl 0, []) else none
    else
     bif Nat.beq pc 39 then some (.aload_n 3, 1, [], .inl 0, []) else none
  else
   bif Nat.ble 30 pc then
    bif Nat.ble 33 pc then
     bif Nat.ble 36 pc then
      bif Nat.beq pc 36 then some (.ifnull 12, 3, [], .inl 0, []) else none
     else
      bif Nat.beq pc 33 then some (.invokevirtual 143, 3, [65, 2, 3, 2, 9], .inl 0, []) else none
    else
     bif Nat.ble 32 pc then
      bif Nat.beq pc 32 then some (.iload_n 2, 1, [], .inl 0, []) else none
     else
      bif Nat.beq pc 30 then some (.aload 4, 2, [], .inl 0, []) else none
   else
    bif Nat.ble 25 pc then
     bif Nat.ble 27 pc then
      bif Nat.beq pc 27 then some (.ifnull 21, 3, [], .inl 0, []) else none
     else
      bif Nat.beq pc 25 then some (.aload 4, 2, [], .inl 0, []) else none
    else
     bif Nat.beq pc 23 then some (.astore 4, 2, [], .inl 0, []) else none
 else
  bif Nat.ble 8 pc then
   bif Nat.ble 15 pc then
    bif Nat.ble 17 pc then
     bif Nat.ble 20 pc then
      bif Nat.beq pc 20 then some (.invokevirtual 124, 3, [108, 2, 3, 2, 11], .inl 0, []) else none
     else
      bif Nat.beq pc 17 then some (.getfield 253, 3, [7, 448, 0], .inl 0, []) else none
    else
     bif Nat.ble 16 pc then
      bif Nat.beq pc 16 then some (.aload_n 3, 1, [], .inl 0, []) else none
     else
      bif Nat.beq pc 15 then some (.aload_n 0, 1, [], .inl 0, []) else none
   else
    bif Nat.ble 11 pc then
     bif Nat.ble 14 pc then
      bif Nat.beq pc 14 then some (.lreturn, 1, [], .inl 0, []) else none
     else
      bif Nat.beq pc 11 then some (.ldc2_w 251, 3, [], .inr (.inl (-9223372036854775808)), []) else none
    else
     bif Nat.beq pc 8 then some (.ifnonnull 7, 3, [], .inl 0, []) else none
  else
   bif Nat.ble 3 pc then
    bif Nat.ble 6 pc then
     bif Nat.ble 7 pc then
      bif Nat.beq pc 7 then some (.aload_n 3, 1, [], .inl 0, []) else none
     else
      bif Nat.beq pc 6 then some (.astore_n 3, 1, [], .inl 0, []) else none
    else
     bif Nat.beq pc 3 then some (.invokevirtual 245, 3, [111, 2, 3, 3, 11], .inl 0, []) else none
   else
    bif Nat.ble 1 pc then
     bif Nat.ble 2 pc then
      bif Nat.beq pc 2 then some (.i2l, 1, [], .inl 0, []) else none
     else
      bif Nat.beq pc 1 then some (.iload_n 1, 1, [], .inl 0, []) else none
    else
     bif Nat.beq pc 0 then some (.aload_n 0, 1, [], .inl 0, []) else none
def kX11_of (pc : Nat) : Option Ent := bif Nat.ble 20 pc then none else
 bif Nat.ble 8 pc then
  bif Nat.ble 15 pc then
   bif Nat.ble 16 pc then
    bif Nat.ble 19 pc then
     bif Nat.beq pc 19 then some (.ireturn, 1, [], .inl 0, []) else none
    else
     bif Nat.beq pc 16 then some (.getfield 253, 3, [7, 448, 0], .inl 0, []) else none
   else
    bif Nat.beq pc 15 then some (.aload_n 2, 1, [], .inl 0, []) else none
  else
   bif Nat.ble 11 pc then
    bif Nat.ble 12 pc then
     bif Nat.beq pc 12 then some (.goto 7, 3, [], .inl 0, []) else none
    else
     bif Nat.beq pc 11 then some (.iconst (-1), 1, [], .inl (-1), []) else none
   else
    bif Nat.beq pc 8 then some (.ifnonnull 7, 3, [], .inl 0, []) else none
 else
  bif Nat.ble 3 pc then
   bif Nat.ble 6 pc then
    bif Nat.ble 7 pc then
     bif Nat.beq pc 7 then some (.aload_n 2, 1, [], .inl 0, []) else none
    else
     bif Nat.beq pc 6 then some (.astore_n 2, 1, [], .inl 0, []) else none
   else
    bif Nat.beq pc 3 then some (.invokevirtual 245, 3, [111, 2, 3, 3, 11], .inl 0, []) else none
  else
   bif Nat.ble 1 pc then
    bif Nat.ble 2 pc then
     bif Nat.beq pc 2 then some (.i2l, 1, [], .inl 0, []) else none
    else
     bif Nat.beq pc 1 then some (.iload_n 1, 1, [], .inl 0, []) else none
   else
    bif Nat.beq pc 0 then some (.aload_n 0, 1, [], .inl 0, []) else none
def kX11_tag (pc : Nat) : Option Ent := bif Nat.ble 37 pc then none else
 bif Nat.ble 15 pc then
  bif Nat.ble 27 pc then
   bif Nat.ble 30 pc then
    bif Nat.ble 33 pc then
     bif Nat.ble 36 pc then
      bif Nat.beq pc 36 then some (.ireturn, 1, [], .inl 0, []) else none
     else
      bif Nat.beq pc 33 then some (.invokevirtual 261, 3, [51, 2, 1, 3, 4], .inl 0, []) else none
    else
     bif Nat.beq pc 30 then some (.getfield 253, 3, [7, 448, 0], .inl 0, []) else none
   else
    bif Nat.ble 29 pc then
     bif Nat.beq pc 29 then some (.aload_n 3, 1, [], .inl 0, []) else none
    else
     bif Nat.beq pc 27 then some (.aload 4, 2, [], .inl 0, []) else none
  else
   bif Nat.ble 20 pc then
    bif Nat.ble 23 pc then
     bif Nat.ble 24 pc then
      bif Nat.beq pc 24 then some (.goto 12, 3, [], .inl 0, []) else none
     else
      bif Nat.beq pc 23 then some (.iconst (-1), 1, [], .inl (-1), []) else none
    else
     bif Nat.beq pc 20 then some (.ifnonnull 7, 3, [], .inl 0, []) else none
   else
    bif Nat.ble 18 pc then
     bif Nat.beq pc 18 then some (.aload 4, 2, [], .inl 0, []) else none
    else
     bif Nat.beq pc 15 then some (.ifnull 8, 3, [], .inl 0, []) else none
 else
  bif Nat.ble 7 pc then
   bif Nat.ble 9 pc then
    bif Nat.ble 12 pc then
     bif Nat.ble 14 pc then
      bif Nat.beq pc 14 then some (.aload_n 3, 1, [], .inl 0, []) else none
     else
      bif Nat.beq pc 12 then some (.astore 4, 2, [], .inl 0, []) else none
    else
     bif Nat.beq pc 9 then some (.invokevirtual 104, 3, [109, 2, 3, 2, 11], .inl 0, []) else none
   else
    bif Nat.ble 8 pc then
     bif Nat.beq pc 8 then some (.iload_n 2, 1, [], .inl 0, []) else none
    else
     bif Nat.beq pc 7 then some (.aload_n 0, 1, [], .inl 0, []) else none
  else
   bif Nat.ble 2 pc then
    bif Nat.ble 3 pc then
     bif Nat.ble 6 pc then
      bif Nat.beq pc 6 then some (.astore_n 3, 1, [], .inl 0, []) else none
     else
      bif Nat.beq pc 3 then some (.invokevirtual 245, 3, [111, 2, 3, 3, 11], .inl 0, []) else none
    else
     bif Nat.beq pc 2 then some (.i2l, 1, [], .inl 0, []) else none
   else
    bif Nat.ble 1 pc then
     bif Nat.beq pc 1 then some (.iload_n 1, 1, [], .inl 0, []) else none
    else
     bif Nat.beq pc 0 then some (.aload_n 0, 1, [], .inl 0, []) else none
def kX11_same (pc : Nat) : Option Ent := bif Nat.ble 48 pc then none else
 bif Nat.ble 21 pc then
  bif Nat.ble 34 pc then
   bif Nat.ble 42 pc then
    bif Nat.ble 46 pc then
     bif Nat.ble 47 pc then
      bif Nat.beq pc 47 then some (.ireturn, 1, [], .inl 0, []) else none
     else
      bif Nat.beq pc 46 then some (.iconst 0, 1, [], .inl (0), []) else none
    else
     bif Nat.ble 43 pc then
      bif Nat.beq pc 43 then some (.goto 4, 3, [], .inl 0, []) else none
     else
      bif Nat.beq pc 42 then some (.iconst 1, 1, [], .inl (1), []) else none
   else
    bif Nat.ble 36 pc then
     bif Nat.ble 39 pc then
      bif Nat.beq pc 39 then some (.if_icmp .ne 7, 3, [], .inl 0, []) else none
     else
      bif Nat.beq pc 36 then some (.getfield 267, 3, [7, 450, 0], .inl 0, []) else none
    else
     bif Nat.beq pc 34 then some (.aload 4, 2, [], .inl 0, []) else none
  else
   bif Nat.ble 26 pc then
    bif Nat.ble 30 pc then
     bif Nat.ble 31 pc then
      bif Nat.beq pc 31 then some (.getfield 267, 3, [7, 450, 0], .inl 0, []) else none
     else
      bif Nat.beq pc 30 then some (.aload_n 3, 1, [], .inl 0, []) else none
    else
     bif Nat.ble 27 pc then
      bif Nat.beq pc 27 then some (.invokevirtual 264, 3, [133, 1, 0, 2, 11], .inl 0, []) else none
     else
      bif Nat.beq pc 26 then some (.aload_n 0, 1, [], .inl 0, []) else none
   else
    bif Nat.ble 24 pc then
     bif Nat.ble 25 pc then
      bif Nat.beq pc 25 then some (.ireturn, 1, [], .inl 0, []) else none
     else
      bif Nat.beq pc 24 then some (.iconst (-1), 1, [], .inl (-1), []) else none
    else
     bif Nat.beq pc 21 then some (.ifnonnull 5, 3, [], .inl 0, []) else none
 else
  bif Nat.ble 8 pc then
   bif Nat.ble 13 pc then
    bif Nat.ble 16 pc then
     bif Nat.ble 19 pc then
      bif Nat.beq pc 19 then some (.aload 4, 2, [], .inl 0, []) else none
     else
      bif Nat.beq pc 16 then some (.ifnull 8, 3, [], .inl 0, []) else none
    else
     bif Nat.ble 15 pc then
      bif Nat.beq pc 15 then some (.aload_n 3, 1, [], .inl 0, []) else none
     else
      bif Nat.beq pc 13 then some (.astore 4, 2, [], .inl 0, []) else none
   else
    bif Nat.ble 9 pc then
     bif Nat.ble 10 pc then
      bif Nat.beq pc 10 then some (.invokevirtual 245, 3, [111, 2, 3, 3, 11], .inl 0, []) else none
     else
      bif Nat.beq pc 9 then some (.i2l, 1, [], .inl 0, []) else none
    else
     bif Nat.beq pc 8 then some (.iload_n 2, 1, [], .inl 0, []) else none
  else
   bif Nat.ble 3 pc then
    bif Nat.ble 6 pc then
     bif Nat.ble 7 pc then
      bif Nat.beq pc 7 then some (.aload_n 0, 1, [], .inl 0, []) else none
     else
      bif Nat.beq pc 6 then some (.astore_n 3, 1, [], .inl 0, []) else none
    else
     bif Nat.beq pc 3 then some (.invokevirtual 245, 3, [111, 2, 3, 3, 11], .inl 0, []) else none
   else
    bif Nat.ble 1 pc then
     bif Nat.ble 2 pc then
      bif Nat.beq pc 2 then some (.i2l, 1, [], .inl 0, []) else none
     else
      bif Nat.beq pc 1 then some (.iload_n 1, 1, [], .inl 0, []) else none
    else
     bif Nat.beq pc 0 then some (.aload_n 0, 1, [], .inl 0, []) else none
def kX11_named (pc : Nat) : Option Ent := bif Nat.ble 57 pc then none else
 bif Nat.ble 26 pc then
  bif Nat.ble 40 pc then
   bif Nat.ble 48 pc then
    bif Nat.ble 54 pc then
     bif Nat.ble 56 pc then
      bif Nat.beq pc 56 then some (.ireturn, 1, [], .inl 0, []) else none
     else
      bif Nat.beq pc 54 then some (.iload 6, 2, [], .inl 0, []) else none
    else
     bif Nat.ble 51 pc then
      bif Nat.beq pc 51 then some (.goto 5, 3, [], .inl 0, []) else none
     else
      bif Nat.beq pc 48 then some (.invokestatic 204, 3, [113, 1, 1, 1, 100], .inl 0, []) else none
   else
    bif Nat.ble 43 pc then
     bif Nat.ble 46 pc then
      bif Nat.beq pc 46 then some (.bipush 8, 2, [], .inl (8), []) else none
     else
      bif Nat.beq pc 43 then some (.if_icmp .ne 11, 3, [], .inl 0, []) else none
    else
     bif Nat.ble 42 pc then
      bif Nat.beq pc 42 then some (.iconst (-1), 1, [], .inl (-1), []) else none
     else
      bif Nat.beq pc 40 then some (.iload 6, 2, [], .inl 0, []) else none
  else
   bif Nat.ble 32 pc then
    bif Nat.ble 35 pc then
     bif Nat.ble 38 pc then
      bif Nat.beq pc 38 then some (.istore 6, 2, [], .inl 0, []) else none
     else
      bif Nat.beq pc 35 then some (.invokevirtual 73, 3, [47, 2, 1, 4, 3], .inl 0, []) else none
    else
     bif Nat.ble 34 pc then
      bif Nat.beq pc 34 then some (.lload_n 2, 1, [], .inl 0, []) else none
     else
      bif Nat.beq pc 32 then some (.aload 4, 2, [], .inl 0, []) else none
   else
    bif Nat.ble 28 pc then
     bif Nat.ble 31 pc then
      bif Nat.beq pc 31 then some (.ireturn, 1, [], .inl 0, []) else none
     else
      bif Nat.beq pc 28 then some (.invokestatic 204, 3, [113, 1, 1, 1, 100], .inl 0, []) else none
    else
     bif Nat.beq pc 26 then some (.iload 5, 2, [], .inl 0, []) else none
 else
  bif Nat.ble 13 pc then
   bif Nat.ble 16 pc then
    bif Nat.ble 21 pc then
     bif Nat.ble 23 pc then
      bif Nat.beq pc 23 then some (.ifCond .eq 9, 3, [], .inl 0, []) else none
     else
      bif Nat.beq pc 21 then some (.iload 5, 2, [], .inl 0, []) else none
    else
     bif Nat.ble 19 pc then
      bif Nat.beq pc 19 then some (.istore 5, 2, [], .inl 0, []) else none
     else
      bif Nat.beq pc 16 then some (.invokevirtual 270, 3, [117, 2, 1, 3, 11], .inl 0, []) else none
   else
    bif Nat.ble 14 pc then
     bif Nat.ble 15 pc then
      bif Nat.beq pc 15 then some (.iload_n 1, 1, [], .inl 0, []) else none
     else
      bif Nat.beq pc 14 then some (.aload_n 0, 1, [], .inl 0, []) else none
    else
     bif Nat.beq pc 13 then some (.ireturn, 1, [], .inl 0, []) else none
  else
   bif Nat.ble 5 pc then
    bif Nat.ble 9 pc then
     bif Nat.ble 12 pc then
      bif Nat.beq pc 12 then some (.iconst (-1), 1, [], .inl (-1), []) else none
     else
      bif Nat.beq pc 9 then some (.ifnonnull 5, 3, [], .inl 0, []) else none
    else
     bif Nat.ble 7 pc then
      bif Nat.beq pc 7 then some (.aload 4, 2, [], .inl 0, []) else none
     else
      bif Nat.beq pc 5 then some (.astore 4, 2, [], .inl 0, []) else none
   else
    bif Nat.ble 1 pc then
     bif Nat.ble 2 pc then
      bif Nat.beq pc 2 then some (.invokevirtual 63, 3, [107, 2, 3, 2, 11], .inl 0, []) else none
     else
      bif Nat.beq pc 1 then some (.iload_n 1, 1, [], .inl 0, []) else none
    else
     bif Nat.beq pc 0 then some (.aload_n 0, 1, [], .inl 0, []) else none
def kX11_work (pc : Nat) : Option Ent := bif Nat.ble 100 pc then none else
 bif Nat.ble 52 pc then
  bif Nat.ble 77 pc then
   bif Nat.ble 90 pc then
    bif Nat.ble 96 pc then
     bif Nat.ble 98 pc then
      bif Nat.ble 99 pc then
       bif Nat.beq pc 99 then some (.lreturn, 1, [], .inl 0, []) else none
      else
       bif Nat.beq pc 98 then some (.i2l, 1, [], .inl 0, []) else none
     else
      bif Nat.ble 97 pc then
       bif Nat.beq pc 97 then some (.iadd, 1, [], .inl 0, []) else none
      else
       bif Nat.beq pc 96 then some (.iload_n 2, 1, [], .inl 0, []) else none
    else
     bif Nat.ble 91 pc then
      bif Nat.ble 94 pc then
       bif Nat.beq pc 94 then some (.iload 4, 2, [], .inl 0, []) else none
      else
       bif Nat.beq pc 91 then some (.goto 8, 3, [], .inl 0, []) else none
     else
      bif Nat.beq pc 90 then some (.i2l, 1, [], .inl 0, []) else none
   else
    bif Nat.ble 82 pc then
     bif Nat.ble 85 pc then
      bif Nat.ble 87 pc then
       bif Nat.beq pc 87 then some (.invokevirtual 276, 3, [44, 3, 1, 4, 2], .inl 0, []) else none
      else
       bif Nat.beq pc 85 then some (.iload 4, 2, [], .inl 0, []) else none
     else
      bif Nat.ble 84 pc then
       bif Nat.beq pc 84 then some (.iload_n 2, 1, [], .inl 0, []) else none
      else
       bif Nat.beq pc 82 then some (.aload 6, 2, [], .inl 0, []) else none
    else
     bif Nat.ble 78 pc then
      bif Nat.ble 79 pc then
       bif Nat.beq pc 79 then some (.if_icmp .ne 15, 3, [], .inl 0, []) else none
      else
       bif Nat.beq pc 78 then some (.iconst 1, 1, [], .inl (1), []) else none
     else
      bif Nat.beq pc 77 then some (.iload_n 3, 1, [], .inl 0, []) else none
  else
   bif Nat.ble 64 pc then
    bif Nat.ble 70 pc then
     bif Nat.ble 75 pc then
      bif Nat.ble 76 pc then
       bif Nat.beq pc 76 then some (.lreturn, 1, [], .inl 0, []) else none
      else
       bif Nat.beq pc 75 then some (.i2l, 1, [], .inl 0, []) else none
     else
      bif Nat.ble 72 pc then
       bif Nat.beq pc 72 then some (.invokevirtual 273, 3, [43, 3, 1, 3, 2], .inl 0, []) else none
      else
       bif Nat.beq pc 70 then some (.iload 4, 2, [], .inl 0, []) else none
    else
     bif Nat.ble 67 pc then
      bif Nat.ble 69 pc then
       bif Nat.beq pc 69 then some (.iload_n 2, 1, [], .inl 0, []) else none
      else
       bif Nat.beq pc 67 then some (.aload 6, 2, [], .inl 0, []) else none
     else
      bif Nat.beq pc 64 then some (.ifCond .ne 13, 3, [], .inl 0, []) else none
   else
    bif Nat.ble 60 pc then
     bif Nat.ble 62 pc then
      bif Nat.ble 63 pc then
       bif Nat.beq pc 63 then some (.iload_n 3, 1, [], .inl 0, []) else none
      else
       bif Nat.beq pc 62 then some (.lreturn, 1, [], .inl 0, []) else none
     else
      bif Nat.ble 61 pc then
       bif Nat.beq pc 61 then some (.ladd, 1, [], .inl 0, []) else none
      else
       bif Nat.beq pc 60 then some (.i2l, 1, [], .inl 0, []) else none
    else
     bif Nat.ble 55 pc then
      bif Nat.ble 58 pc then
       bif Nat.beq pc 58 then some (.iload 7, 2, [], .inl 0, []) else none
      else
       bif Nat.beq pc 55 then some (.ldc2_w 251, 3, [], .inr (.inl (-9223372036854775808)), []) else none
     else
      bif Nat.beq pc 52 then some (.ifCond .eq 11, 3, [], .inl 0, []) else none
 else
  bif Nat.ble 25 pc then
   bif Nat.ble 39 pc then
    bif Nat.ble 44 pc then
     bif Nat.ble 48 pc then
      bif Nat.ble 50 pc then
       bif Nat.beq pc 50 then some (.iload 7, 2, [], .inl 0, []) else none
      else
       bif Nat.beq pc 48 then some (.istore 7, 2, [], .inl 0, []) else none
     else
      bif Nat.ble 45 pc then
       bif Nat.beq pc 45 then some (.invokevirtual 270, 3, [117, 2, 1, 3, 11], .inl 0, []) else none
      else
       bif Nat.beq pc 44 then some (.iload_n 1, 1, [], .inl 0, []) else none
    else
     bif Nat.ble 42 pc then
      bif Nat.ble 43 pc then
       bif Nat.beq pc 43 then some (.aload_n 0, 1, [], .inl 0, []) else none
      else
       bif Nat.beq pc 42 then some (.lreturn, 1, [], .inl 0, []) else none
     else
      bif Nat.beq pc 39 then some (.ldc2_w 251, 3, [], .inr (.inl (-9223372036854775808)), []) else none
   else
    bif Nat.ble 29 pc then
     bif Nat.ble 34 pc then
      bif Nat.ble 36 pc then
       bif Nat.beq pc 36 then some (.ifnonnull 7, 3, [], .inl 0, []) else none
      else
       bif Nat.beq pc 34 then some (.aload 6, 2, [], .inl 0, []) else none
     else
      bif Nat.ble 32 pc then
       bif Nat.beq pc 32 then some (.astore 6, 2, [], .inl 0, []) else none
      else
       bif Nat.beq pc 29 then some (.invokevirtual 85, 3, [46, 2, 3, 3, 3], .inl 0, []) else none
    else
     bif Nat.ble 27 pc then
      bif Nat.ble 28 pc then
       bif Nat.beq pc 28 then some (.i2l, 1, [], .inl 0, []) else none
      else
       bif Nat.beq pc 27 then some (.iload_n 2, 1, [], .inl 0, []) else none
     else
      bif Nat.beq pc 25 then some (.aload 5, 2, [], .inl 0, []) else none
  else
   bif Nat.ble 12 pc then
    bif Nat.ble 17 pc then
     bif Nat.ble 21 pc then
      bif Nat.ble 24 pc then
       bif Nat.beq pc 24 then some (.lreturn, 1, [], .inl 0, []) else none
      else
       bif Nat.beq pc 21 then some (.ldc2_w 251, 3, [], .inr (.inl (-9223372036854775808)), []) else none
     else
      bif Nat.ble 18 pc then
       bif Nat.beq pc 18 then some (.if_icmp .le 7, 3, [], .inl 0, []) else none
      else
       bif Nat.beq pc 17 then some (.iconst 2, 1, [], .inl (2), []) else none
    else
     bif Nat.ble 13 pc then
      bif Nat.ble 16 pc then
       bif Nat.beq pc 16 then some (.iload_n 3, 1, [], .inl 0, []) else none
      else
       bif Nat.beq pc 13 then some (.ifCond .lt 8, 3, [], .inl 0, []) else none
     else
      bif Nat.beq pc 12 then some (.iload_n 3, 1, [], .inl 0, []) else none
   else
    bif Nat.ble 5 pc then
     bif Nat.ble 7 pc then
      bif Nat.ble 9 pc then
       bif Nat.beq pc 9 then some (.ifnull 12, 3, [], .inl 0, []) else none
      else
       bif Nat.beq pc 7 then some (.aload 5, 2, [], .inl 0, []) else none
     else
      bif Nat.beq pc 5 then some (.astore 5, 2, [], .inl 0, []) else none
    else
     bif Nat.ble 1 pc then
      bif Nat.ble 2 pc then
       bif Nat.beq pc 2 then some (.invokevirtual 63, 3, [107, 2, 3, 2, 11], .inl 0, []) else none
      else
       bif Nat.beq pc 1 then some (.iload_n 1, 1, [], .inl 0, []) else none
     else
      bif Nat.beq pc 0 then some (.aload_n 0, 1, [], .inl 0, []) else none
def kX11_started (pc : Nat) : Option Ent := bif Nat.ble 23 pc then none else
 bif Nat.ble 12 pc then
  bif Nat.ble 17 pc then
   bif Nat.ble 21 pc then
    bif Nat.ble 22 pc then
     bif Nat.beq pc 22 then some (.ireturn, 1, [], .inl 0, []) else none
    else
     bif Nat.beq pc 21 then some (.iconst (-1), 1, [], .inl (-1), []) else none
   else
    bif Nat.ble 18 pc then
     bif Nat.beq pc 18 then some (.goto 4, 3, [], .inl 0, []) else none
    else
     bif Nat.beq pc 17 then some (.iaload, 1, [], .inl 0, []) else none
  else
   bif Nat.ble 13 pc then
    bif Nat.ble 16 pc then
     bif Nat.beq pc 16 then some (.iload_n 1, 1, [], .inl 0, []) else none
    else
     bif Nat.beq pc 13 then some (.getfield 28, 3, [11, 714, 2], .inl 0, []) else none
   else
    bif Nat.beq pc 12 then some (.aload_n 0, 1, [], .inl 0, []) else none
 else
  bif Nat.ble 5 pc then
   bif Nat.ble 6 pc then
    bif Nat.ble 9 pc then
     bif Nat.beq pc 9 then some (.if_icmp .ge 12, 3, [], .inl 0, []) else none
    else
     bif Nat.beq pc 6 then some (.getfield 187, 3, [11, 715, 0], .inl 0, []) else none
   else
    bif Nat.beq pc 5 then some (.aload_n 0, 1, [], .inl 0, []) else none
  else
   bif Nat.ble 1 pc then
    bif Nat.ble 4 pc then
     bif Nat.beq pc 4 then some (.iload_n 1, 1, [], .inl 0, []) else none
    else
     bif Nat.beq pc 1 then some (.ifCond .lt 20, 3, [], .inl 0, []) else none
   else
    bif Nat.beq pc 0 then some (.iload_n 1, 1, [], .inl 0, []) else none
def kX11_keep (pc : Nat) : Option Ent := bif Nat.ble 52 pc then none else
 bif Nat.ble 25 pc then
  bif Nat.ble 38 pc then
   bif Nat.ble 44 pc then
    bif Nat.ble 48 pc then
     bif Nat.ble 51 pc then
      bif Nat.beq pc 51 then some (.ireturn, 1, [], .inl 0, []) else none
     else
      bif Nat.beq pc 48 then some (.getfield 282, 3, [7, 451, 0], .inl 0, []) else none
    else
     bif Nat.ble 47 pc then
      bif Nat.beq pc 47 then some (.aload_n 2, 1, [], .inl 0, []) else none
     else
      bif Nat.beq pc 44 then some (.invokevirtual 285, 3, [139, 2, 0, 6, 11], .inl 0, []) else none
   else
    bif Nat.ble 42 pc then
     bif Nat.ble 43 pc then
      bif Nat.beq pc 43 then some (.iload_n 1, 1, [], .inl 0, []) else none
     else
      bif Nat.beq pc 42 then some (.aload_n 0, 1, [], .inl 0, []) else none
    else
     bif Nat.ble 39 pc then
      bif Nat.beq pc 39 then some (.if_icmp .ne 8, 3, [], .inl 0, []) else none
     else
      bif Nat.beq pc 38 then some (.iconst (-1), 1, [], .inl (-1), []) else none
  else
   bif Nat.ble 31 pc then
    bif Nat.ble 34 pc then
     bif Nat.ble 35 pc then
      bif Nat.beq pc 35 then some (.getfield 282, 3, [7, 451, 0], .inl 0, []) else none
     else
      bif Nat.beq pc 34 then some (.aload_n 2, 1, [], .inl 0, []) else none
    else
     bif Nat.ble 33 pc then
      bif Nat.beq pc 33 then some (.ireturn, 1, [], .inl 0, []) else none
     else
      bif Nat.beq pc 31 then some (.bipush (-3), 2, [], .inl (-3), []) else none
   else
    bif Nat.ble 26 pc then
     bif Nat.ble 28 pc then
      bif Nat.beq pc 28 then some (.if_icmp .le 6, 3, [], .inl 0, []) else none
     else
      bif Nat.beq pc 26 then some (.bipush 64, 2, [], .inl (64), []) else none
    else
     bif Nat.beq pc 25 then some (.iadd, 1, [], .inl 0, []) else none
 else
  bif Nat.ble 11 pc then
   bif Nat.ble 17 pc then
    bif Nat.ble 21 pc then
     bif Nat.ble 22 pc then
      bif Nat.beq pc 22 then some (.invokevirtual 279, 3, [137, 2, 1, 5, 11], .inl 0, []) else none
     else
      bif Nat.beq pc 21 then some (.iload_n 1, 1, [], .inl 0, []) else none
    else
     bif Nat.ble 20 pc then
      bif Nat.beq pc 20 then some (.aload_n 0, 1, [], .inl 0, []) else none
     else
      bif Nat.beq pc 17 then some (.invokevirtual 52, 3, [14, 1, 1, 1, 0], .inl 0, []) else none
   else
    bif Nat.ble 13 pc then
     bif Nat.ble 14 pc then
      bif Nat.beq pc 14 then some (.getfield 42, 3, [11, 719, 2], .inl 0, []) else none
     else
      bif Nat.beq pc 13 then some (.aload_n 0, 1, [], .inl 0, []) else none
    else
     bif Nat.ble 12 pc then
      bif Nat.beq pc 12 then some (.ireturn, 1, [], .inl 0, []) else none
     else
      bif Nat.beq pc 11 then some (.iconst (-1), 1, [], .inl (-1), []) else none
  else
   bif Nat.ble 3 pc then
    bif Nat.ble 7 pc then
     bif Nat.ble 8 pc then
      bif Nat.beq pc 8 then some (.ifnonnull 5, 3, [], .inl 0, []) else none
     else
      bif Nat.beq pc 7 then some (.aload_n 2, 1, [], .inl 0, []) else none
    else
     bif Nat.ble 6 pc then
      bif Nat.beq pc 6 then some (.astore_n 2, 1, [], .inl 0, []) else none
     else
      bif Nat.beq pc 3 then some (.invokevirtual 245, 3, [111, 2, 3, 3, 11], .inl 0, []) else none
   else
    bif Nat.ble 1 pc then
     bif Nat.ble 2 pc then
      bif Nat.beq pc 2 then some (.i2l, 1, [], .inl 0, []) else none
     else
      bif Nat.beq pc 1 then some (.iload_n 1, 1, [], .inl 0, []) else none
    else
     bif Nat.beq pc 0 then some (.aload_n 0, 1, [], .inl 0, []) else none
def kX11_load (pc : Nat) : Option Ent := bif Nat.ble 34 pc then none else
 bif Nat.ble 14 pc then
  bif Nat.ble 25 pc then
   bif Nat.ble 29 pc then
    bif Nat.ble 30 pc then
     bif Nat.ble 33 pc then
      bif Nat.beq pc 33 then some (.ireturn, 1, [], .inl 0, []) else none
     else
      bif Nat.beq pc 30 then some (.invokevirtual 295, 3, [146, 2, 1, 11, 11], .inl 0, []) else none
    else
     bif Nat.beq pc 29 then some (.iload_n 1, 1, [], .inl 0, []) else none
   else
    bif Nat.ble 28 pc then
     bif Nat.beq pc 28 then some (.aload_n 0, 1, [], .inl 0, []) else none
    else
     bif Nat.beq pc 25 then some (.goto 8, 3, [], .inl 0, []) else none
  else
   bif Nat.ble 18 pc then
    bif Nat.ble 21 pc then
     bif Nat.ble 22 pc then
      bif Nat.beq pc 22 then some (.getfield 292, 3, [6, 389, 0], .inl 0, []) else none
     else
      bif Nat.beq pc 21 then some (.aload_n 2, 1, [], .inl 0, []) else none
    else
     bif Nat.beq pc 18 then some (.if_icmp .eq 10, 3, [], .inl 0, []) else none
   else
    bif Nat.ble 17 pc then
     bif Nat.beq pc 17 then some (.iconst (-1), 1, [], .inl (-1), []) else none
    else
     bif Nat.beq pc 14 then some (.getfield 292, 3, [6, 389, 0], .inl 0, []) else none
 else
  bif Nat.ble 7 pc then
   bif Nat.ble 11 pc then
    bif Nat.ble 12 pc then
     bif Nat.ble 13 pc then
      bif Nat.beq pc 13 then some (.aload_n 2, 1, [], .inl 0, []) else none
     else
      bif Nat.beq pc 12 then some (.ireturn, 1, [], .inl 0, []) else none
    else
     bif Nat.beq pc 11 then some (.iconst (-1), 1, [], .inl (-1), []) else none
   else
    bif Nat.ble 8 pc then
     bif Nat.beq pc 8 then some (.ifnonnull 5, 3, [], .inl 0, []) else none
    else
     bif Nat.beq pc 7 then some (.aload_n 2, 1, [], .inl 0, []) else none
  else
   bif Nat.ble 2 pc then
    bif Nat.ble 3 pc then
     bif Nat.ble 6 pc then
      bif Nat.beq pc 6 then some (.astore_n 2, 1, [], .inl 0, []) else none
     else
      bif Nat.beq pc 3 then some (.invokevirtual 288, 3, [112, 2, 3, 3, 11], .inl 0, []) else none
    else
     bif Nat.beq pc 2 then some (.i2l, 1, [], .inl 0, []) else none
   else
    bif Nat.ble 1 pc then
     bif Nat.beq pc 1 then some (.iload_n 1, 1, [], .inl 0, []) else none
    else
     bif Nat.beq pc 0 then some (.aload_n 0, 1, [], .inl 0, []) else none
def kX11_line (pc : Nat) : Option Ent := bif Nat.ble 67 pc then none else
 bif Nat.ble 48 pc then
  bif Nat.ble 58 pc then
   bif Nat.ble 61 pc then
    bif Nat.ble 65 pc then
     bif Nat.ble 66 pc then
      bif Nat.beq pc 66 then some (.ireturn, 1, [], .inl 0, []) else none
     else
      bif Nat.beq pc 65 then some (.iconst (-1), 1, [], .inl (-1), []) else none
    else
     bif Nat.ble 64 pc then
      bif Nat.beq pc 64 then some (.ireturn, 1, [], .inl 0, []) else none
     else
      bif Nat.beq pc 61 then some (.getfield 292, 3, [6, 389, 0], .inl 0, []) else none
   else
    bif Nat.ble 59 pc then
     bif Nat.ble 60 pc then
      bif Nat.beq pc 60 then some (.aload_n 3, 1, [], .inl 0, []) else none
     else
      bif Nat.beq pc 59 then some (.ireturn, 1, [], .inl 0, []) else none
    else
     bif Nat.beq pc 58 then some (.arraylength, 1, [], .inl 0, []) else none
  else
   bif Nat.ble 53 pc then
    bif Nat.ble 54 pc then
     bif Nat.ble 55 pc then
      bif Nat.beq pc 55 then some (.getfield 302, 3, [6, 386, 2], .inl 0, []) else none
     else
      bif Nat.beq pc 54 then some (.aload_n 3, 1, [], .inl 0, []) else none
    else
     bif Nat.beq pc 53 then some (.ireturn, 1, [], .inl 0, []) else none
   else
    bif Nat.ble 49 pc then
     bif Nat.ble 50 pc then
      bif Nat.beq pc 50 then some (.getfield 299, 3, [6, 385, 0], .inl 0, []) else none
     else
      bif Nat.beq pc 49 then some (.aload_n 3, 1, [], .inl 0, []) else none
    else
     bif Nat.beq pc 48 then some (.ireturn, 1, [], .inl 0, []) else none
 else
  bif Nat.ble 8 pc then
   bif Nat.ble 13 pc then
    bif Nat.ble 44 pc then
     bif Nat.ble 45 pc then
      bif Nat.beq pc 45 then some (.getfield 298, 3, [6, 384, 0], .inl 0, []) else none
     else
      bif Nat.beq pc 44 then some (.aload_n 3, 1, [], .inl 0, []) else none
    else
     bif Nat.ble 14 pc then
      bif Nat.beq pc 14 then some (.tableswitch 51 0 3 #[30, 35, 40, 46], 30, [], .inl 0, []) else none
     else
      bif Nat.beq pc 13 then some (.iload_n 2, 1, [], .inl 0, []) else none
   else
    bif Nat.ble 11 pc then
     bif Nat.ble 12 pc then
      bif Nat.beq pc 12 then some (.ireturn, 1, [], .inl 0, []) else none
     else
      bif Nat.beq pc 11 then some (.iconst (-1), 1, [], .inl (-1), []) else none
    else
     bif Nat.beq pc 8 then some (.ifnonnull 5, 3, [], .inl 0, []) else none
  else
   bif Nat.ble 3 pc then
    bif Nat.ble 6 pc then
     bif Nat.ble 7 pc then
      bif Nat.beq pc 7 then some (.aload_n 3, 1, [], .inl 0, []) else none
     else
      bif Nat.beq pc 6 then some (.astore_n 3, 1, [], .inl 0, []) else none
    else
     bif Nat.beq pc 3 then some (.invokevirtual 288, 3, [112, 2, 3, 3, 11], .inl 0, []) else none
   else
    bif Nat.ble 1 pc then
     bif Nat.ble 2 pc then
      bif Nat.beq pc 2 then some (.i2l, 1, [], .inl 0, []) else none
     else
      bif Nat.beq pc 1 then some (.iload_n 1, 1, [], .inl 0, []) else none
    else
     bif Nat.beq pc 0 then some (.aload_n 0, 1, [], .inl 0, []) else none
def kX11_word (pc : Nat) : Option Ent := bif Nat.ble 80 pc then none else
 bif Nat.ble 39 pc then
  bif Nat.ble 60 pc then
   bif Nat.ble 70 pc then
    bif Nat.ble 74 pc then
     bif Nat.ble 76 pc then
      bif Nat.ble 79 pc then
       bif Nat.beq pc 79 then some (.ireturn, 1, [], .inl 0, []) else none
      else
       bif Nat.beq pc 76 then some (.invokevirtual 317, 3, [155, 2, 1, 4, 11], .inl 0, []) else none
     else
      bif Nat.beq pc 74 then some (.iload 5, 2, [], .inl 0, []) else none
    else
     bif Nat.ble 73 pc then
      bif Nat.beq pc 73 then some (.aload_n 0, 1, [], .inl 0, []) else none
     else
      bif Nat.beq pc 70 then some (.goto (-67), 3, [], .inl 0, []) else none
   else
    bif Nat.ble 64 pc then
     bif Nat.ble 67 pc then
      bif Nat.beq pc 67 then some (.iinc 6 1, 3, [], .inl (1), []) else none
     else
      bif Nat.beq pc 64 then some (.putfield 314, 3, [6, 390, 3], .inl 0, []) else none
    else
     bif Nat.ble 63 pc then
      bif Nat.beq pc 63 then some (.iconst 0, 1, [], .inl (0), []) else none
     else
      bif Nat.beq pc 60 then some (.goto 4, 3, [], .inl 0, []) else none
  else
   bif Nat.ble 50 pc then
    bif Nat.ble 53 pc then
     bif Nat.ble 56 pc then
      bif Nat.ble 59 pc then
       bif Nat.beq pc 59 then some (.iconst 1, 1, [], .inl (1), []) else none
      else
       bif Nat.beq pc 56 then some (.ifCond .eq 7, 3, [], .inl 0, []) else none
     else
      bif Nat.beq pc 53 then some (.invokevirtual 309, 3, [56, 2, 1, 4, 5], .inl 0, []) else none
    else
     bif Nat.ble 52 pc then
      bif Nat.beq pc 52 then some (.lload_n 3, 1, [], .inl 0, []) else none
     else
      bif Nat.beq pc 50 then some (.aload 7, 2, [], .inl 0, []) else none
   else
    bif Nat.ble 45 pc then
     bif Nat.ble 47 pc then
      bif Nat.beq pc 47 then some (.ifnull 16, 3, [], .inl 0, []) else none
     else
      bif Nat.beq pc 45 then some (.aload 7, 2, [], .inl 0, []) else none
    else
     bif Nat.ble 42 pc then
      bif Nat.beq pc 42 then some (.checkcast 199, 3, [6], .inl 0, []) else none
     else
      bif Nat.beq pc 39 then some (.invokevirtual 190, 3, [16, 2, 3, 2, 0], .inl 0, []) else none
 else
  bif Nat.ble 19 pc then
   bif Nat.ble 28 pc then
    bif Nat.ble 33 pc then
     bif Nat.ble 34 pc then
      bif Nat.ble 37 pc then
       bif Nat.beq pc 37 then some (.iload 6, 2, [], .inl 0, []) else none
      else
       bif Nat.beq pc 34 then some (.getfield 42, 3, [11, 719, 2], .inl 0, []) else none
     else
      bif Nat.beq pc 33 then some (.aload_n 0, 1, [], .inl 0, []) else none
    else
     bif Nat.ble 31 pc then
      bif Nat.beq pc 31 then some (.astore 7, 2, [], .inl 0, []) else none
     else
      bif Nat.beq pc 28 then some (.invokevirtual 305, 3, [60, 2, 3, 4, 6], .inl 0, []) else none
   else
    bif Nat.ble 24 pc then
     bif Nat.ble 27 pc then
      bif Nat.beq pc 27 then some (.lload_n 1, 1, [], .inl 0, []) else none
     else
      bif Nat.beq pc 24 then some (.checkcast 199, 3, [6], .inl 0, []) else none
    else
     bif Nat.ble 21 pc then
      bif Nat.beq pc 21 then some (.invokevirtual 190, 3, [16, 2, 3, 2, 0], .inl 0, []) else none
     else
      bif Nat.beq pc 19 then some (.iload 6, 2, [], .inl 0, []) else none
  else
   bif Nat.ble 6 pc then
    bif Nat.ble 12 pc then
     bif Nat.ble 15 pc then
      bif Nat.ble 16 pc then
       bif Nat.beq pc 16 then some (.getfield 42, 3, [11, 719, 2], .inl 0, []) else none
      else
       bif Nat.beq pc 15 then some (.aload_n 0, 1, [], .inl 0, []) else none
     else
      bif Nat.beq pc 12 then some (.if_icmp .ge 61, 3, [], .inl 0, []) else none
    else
     bif Nat.ble 9 pc then
      bif Nat.beq pc 9 then some (.invokevirtual 52, 3, [14, 1, 1, 1, 0], .inl 0, []) else none
     else
      bif Nat.beq pc 6 then some (.getfield 42, 3, [11, 719, 2], .inl 0, []) else none
   else
    bif Nat.ble 3 pc then
     bif Nat.ble 5 pc then
      bif Nat.beq pc 5 then some (.aload_n 0, 1, [], .inl 0, []) else none
     else
      bif Nat.beq pc 3 then some (.iload 6, 2, [], .inl 0, [2, 4, 7]) else none
    else
     bif Nat.ble 1 pc then
      bif Nat.beq pc 1 then some (.istore 6, 2, [], .inl 0, []) else none
     else
      bif Nat.beq pc 0 then some (.iconst 0, 1, [], .inl (0), []) else none
def kX11_range (pc : Nat) : Option Ent := bif Nat.ble 108 pc then none else
 bif Nat.ble 51 pc then
  bif Nat.ble 79 pc then
   bif Nat.ble 92 pc then
    bif Nat.ble 101 pc then
     bif Nat.ble 104 pc then
      bif Nat.ble 107 pc then
       bif Nat.beq pc 107 then some (.ireturn, 1, [], .inl 0, []) else none
      else
       bif Nat.beq pc 104 then some (.invokevirtual 317, 3, [155, 2, 1, 4, 11], .inl 0, []) else none
     else
      bif Nat.ble 102 pc then
       bif Nat.beq pc 102 then some (.iload 6, 2, [], .inl 0, []) else none
      else
       bif Nat.beq pc 101 then some (.aload_n 0, 1, [], .inl 0, []) else none
    else
     bif Nat.ble 95 pc then
      bif Nat.ble 98 pc then
       bif Nat.beq pc 98 then some (.goto (-81), 3, [], .inl 0, []) else none
      else
       bif Nat.beq pc 95 then some (.iinc 8 1, 3, [], .inl (1), []) else none
     else
      bif Nat.beq pc 92 then some (.putfield 314, 3, [6, 390, 3], .inl 0, []) else none
   else
    bif Nat.ble 87 pc then
     bif Nat.ble 88 pc then
      bif Nat.ble 91 pc then
       bif Nat.beq pc 91 then some (.iconst 0, 1, [], .inl (0), []) else none
      else
       bif Nat.beq pc 88 then some (.goto 4, 3, [], .inl 0, []) else none
     else
      bif Nat.beq pc 87 then some (.iconst 1, 1, [], .inl (1), []) else none
    else
     bif Nat.ble 81 pc then
      bif Nat.ble 84 pc then
       bif Nat.beq pc 84 then some (.ifCond .eq 7, 3, [], .inl 0, []) else none
      else
       bif Nat.beq pc 81 then some (.invokevirtual 323, 3, [57, 4, 1, 6, 5], .inl 0, []) else none
     else
      bif Nat.beq pc 79 then some (.iload 5, 2, [], .inl 0, []) else none
  else
   bif Nat.ble 66 pc then
    bif Nat.ble 73 pc then
     bif Nat.ble 75 pc then
      bif Nat.ble 77 pc then
       bif Nat.beq pc 77 then some (.iload 4, 2, [], .inl 0, []) else none
      else
       bif Nat.beq pc 75 then some (.aload 7, 2, [], .inl 0, []) else none
     else
      bif Nat.beq pc 73 then some (.aload 9, 2, [], .inl 0, []) else none
    else
     bif Nat.ble 69 pc then
      bif Nat.ble 70 pc then
       bif Nat.beq pc 70 then some (.if_icmp .ne 21, 3, [], .inl 0, []) else none
      else
       bif Nat.beq pc 69 then some (.iload_n 3, 1, [], .inl 0, []) else none
     else
      bif Nat.beq pc 66 then some (.getfield 320, 3, [5, 322, 0], .inl 0, []) else none
   else
    bif Nat.ble 59 pc then
     bif Nat.ble 61 pc then
      bif Nat.ble 64 pc then
       bif Nat.beq pc 64 then some (.aload 9, 2, [], .inl 0, []) else none
      else
       bif Nat.beq pc 61 then some (.ifnull 30, 3, [], .inl 0, []) else none
     else
      bif Nat.beq pc 59 then some (.aload 9, 2, [], .inl 0, []) else none
    else
     bif Nat.ble 53 pc then
      bif Nat.ble 56 pc then
       bif Nat.beq pc 56 then some (.checkcast 199, 3, [6], .inl 0, []) else none
      else
       bif Nat.beq pc 53 then some (.invokevirtual 190, 3, [16, 2, 3, 2, 0], .inl 0, []) else none
     else
      bif Nat.beq pc 51 then some (.iload 8, 2, [], .inl 0, []) else none
 else
  bif Nat.ble 20 pc then
   bif Nat.ble 35 pc then
    bif Nat.ble 42 pc then
     bif Nat.ble 47 pc then
      bif Nat.ble 48 pc then
       bif Nat.beq pc 48 then some (.getfield 42, 3, [11, 719, 2], .inl 0, []) else none
      else
       bif Nat.beq pc 47 then some (.aload_n 0, 1, [], .inl 0, []) else none
     else
      bif Nat.ble 45 pc then
       bif Nat.beq pc 45 then some (.astore 9, 2, [], .inl 0, []) else none
      else
       bif Nat.beq pc 42 then some (.invokevirtual 305, 3, [60, 2, 3, 4, 6], .inl 0, []) else none
    else
     bif Nat.ble 38 pc then
      bif Nat.ble 41 pc then
       bif Nat.beq pc 41 then some (.lload_n 1, 1, [], .inl 0, []) else none
      else
       bif Nat.beq pc 38 then some (.checkcast 199, 3, [6], .inl 0, []) else none
     else
      bif Nat.beq pc 35 then some (.invokevirtual 190, 3, [16, 2, 3, 2, 0], .inl 0, []) else none
   else
    bif Nat.ble 29 pc then
     bif Nat.ble 30 pc then
      bif Nat.ble 33 pc then
       bif Nat.beq pc 33 then some (.iload 8, 2, [], .inl 0, []) else none
      else
       bif Nat.beq pc 30 then some (.getfield 42, 3, [11, 719, 2], .inl 0, []) else none
     else
      bif Nat.beq pc 29 then some (.aload_n 0, 1, [], .inl 0, []) else none
    else
     bif Nat.ble 23 pc then
      bif Nat.ble 26 pc then
       bif Nat.beq pc 26 then some (.if_icmp .ge 75, 3, [], .inl 0, []) else none
      else
       bif Nat.beq pc 23 then some (.invokevirtual 52, 3, [14, 1, 1, 1, 0], .inl 0, []) else none
     else
      bif Nat.beq pc 20 then some (.getfield 42, 3, [11, 719, 2], .inl 0, []) else none
  else
   bif Nat.ble 12 pc then
    bif Nat.ble 15 pc then
     bif Nat.ble 17 pc then
      bif Nat.ble 19 pc then
       bif Nat.beq pc 19 then some (.aload_n 0, 1, [], .inl 0, []) else none
      else
       bif Nat.beq pc 17 then some (.iload 8, 2, [], .inl 0, [2, 9]) else none
     else
      bif Nat.beq pc 15 then some (.istore 8, 2, [], .inl 0, []) else none
    else
     bif Nat.ble 13 pc then
      bif Nat.ble 14 pc then
       bif Nat.beq pc 14 then some (.iconst 0, 1, [], .inl (0), []) else none
      else
       bif Nat.beq pc 13 then some (.ireturn, 1, [], .inl 0, []) else none
     else
      bif Nat.beq pc 12 then some (.iconst (-1), 1, [], .inl (-1), []) else none
   else
    bif Nat.ble 5 pc then
     bif Nat.ble 7 pc then
      bif Nat.ble 9 pc then
       bif Nat.beq pc 9 then some (.ifnonnull 5, 3, [], .inl 0, []) else none
      else
       bif Nat.beq pc 7 then some (.aload 7, 2, [], .inl 0, []) else none
     else
      bif Nat.beq pc 5 then some (.astore 7, 2, [], .inl 0, []) else none
    else
     bif Nat.ble 1 pc then
      bif Nat.ble 2 pc then
       bif Nat.beq pc 2 then some (.invokevirtual 63, 3, [107, 2, 3, 2, 11], .inl 0, []) else none
      else
       bif Nat.beq pc 1 then some (.iload_n 3, 1, [], .inl 0, []) else none
     else
      bif Nat.beq pc 0 then some (.aload_n 0, 1, [], .inl 0, []) else none
def kX11_count (pc : Nat) : Option Ent := bif Nat.ble 102 pc then none else
 bif Nat.ble 76 pc then
  bif Nat.ble 90 pc then
   bif Nat.ble 96 pc then
    bif Nat.ble 100 pc then
     bif Nat.ble 101 pc then
      bif Nat.beq pc 101 then some (.ireturn, 1, [], .inl 0, []) else none
     else
      bif Nat.beq pc 100 then some (.iconst (-1), 1, [], .inl (-1), []) else none
    else
     bif Nat.ble 99 pc then
      bif Nat.beq pc 99 then some (.ireturn, 1, [], .inl 0, []) else none
     else
      bif Nat.beq pc 96 then some (.getfield 327, 3, [11, 722, 0], .inl 0, []) else none
   else
    bif Nat.ble 94 pc then
     bif Nat.ble 95 pc then
      bif Nat.beq pc 95 then some (.aload_n 0, 1, [], .inl 0, []) else none
     else
      bif Nat.beq pc 94 then some (.ireturn, 1, [], .inl 0, []) else none
    else
     bif Nat.ble 91 pc then
      bif Nat.beq pc 91 then some (.getfield 172, 3, [11, 721, 0], .inl 0, []) else none
     else
      bif Nat.beq pc 90 then some (.aload_n 0, 1, [], .inl 0, []) else none
  else
   bif Nat.ble 82 pc then
    bif Nat.ble 86 pc then
     bif Nat.ble 89 pc then
      bif Nat.beq pc 89 then some (.ireturn, 1, [], .inl 0, []) else none
     else
      bif Nat.beq pc 86 then some (.invokevirtual 52, 3, [14, 1, 1, 1, 0], .inl 0, []) else none
    else
     bif Nat.ble 83 pc then
      bif Nat.beq pc 83 then some (.getfield 42, 3, [11, 719, 2], .inl 0, []) else none
     else
      bif Nat.beq pc 82 then some (.aload_n 0, 1, [], .inl 0, []) else none
   else
    bif Nat.ble 78 pc then
     bif Nat.ble 81 pc then
      bif Nat.beq pc 81 then some (.ireturn, 1, [], .inl 0, []) else none
     else
      bif Nat.beq pc 78 then some (.getfield 48, 3, [11, 711, 0], .inl 0, []) else none
    else
     bif Nat.ble 77 pc then
      bif Nat.beq pc 77 then some (.aload_n 0, 1, [], .inl 0, []) else none
     else
      bif Nat.beq pc 76 then some (.ireturn, 1, [], .inl 0, []) else none
 else
  bif Nat.ble 60 pc then
   bif Nat.ble 68 pc then
    bif Nat.ble 72 pc then
     bif Nat.ble 73 pc then
      bif Nat.beq pc 73 then some (.getfield 181, 3, [11, 708, 0], .inl 0, []) else none
     else
      bif Nat.beq pc 72 then some (.aload_n 0, 1, [], .inl 0, []) else none
    else
     bif Nat.ble 71 pc then
      bif Nat.beq pc 71 then some (.ireturn, 1, [], .inl 0, []) else none
     else
      bif Nat.beq pc 68 then some (.invokevirtual 52, 3, [14, 1, 1, 1, 0], .inl 0, []) else none
   else
    bif Nat.ble 64 pc then
     bif Nat.ble 65 pc then
      bif Nat.beq pc 65 then some (.getfield 19, 3, [11, 706, 2], .inl 0, []) else none
     else
      bif Nat.beq pc 64 then some (.aload_n 0, 1, [], .inl 0, []) else none
    else
     bif Nat.ble 63 pc then
      bif Nat.beq pc 63 then some (.ireturn, 1, [], .inl 0, []) else none
     else
      bif Nat.beq pc 60 then some (.invokevirtual 52, 3, [14, 1, 1, 1, 0], .inl 0, []) else none
  else
   bif Nat.ble 52 pc then
    bif Nat.ble 56 pc then
     bif Nat.ble 57 pc then
      bif Nat.beq pc 57 then some (.getfield 16, 3, [11, 705, 2], .inl 0, []) else none
     else
      bif Nat.beq pc 56 then some (.aload_n 0, 1, [], .inl 0, []) else none
    else
     bif Nat.ble 55 pc then
      bif Nat.beq pc 55 then some (.ireturn, 1, [], .inl 0, []) else none
     else
      bif Nat.beq pc 52 then some (.invokevirtual 52, 3, [14, 1, 1, 1, 0], .inl 0, []) else none
   else
    bif Nat.ble 48 pc then
     bif Nat.ble 49 pc then
      bif Nat.beq pc 49 then some (.getfield 10, 3, [11, 704, 2], .inl 0, []) else none
     else
      bif Nat.beq pc 48 then some (.aload_n 0, 1, [], .inl 0, []) else none
    else
     bif Nat.ble 1 pc then
      bif Nat.beq pc 1 then some (.tableswitch 99 0 7 #[47, 55, 63, 71, 76, 81, 89, 94], 47, [], .inl 0, []) else none
     else
      bif Nat.beq pc 0 then some (.iload_n 1, 1, [], .inl 0, []) else none
def kX11_about (pc : Nat) : Option Ent := bif Nat.ble 114 pc then none else
 bif Nat.ble 54 pc then
  bif Nat.ble 86 pc then
   bif Nat.ble 98 pc then
    bif Nat.ble 106 pc then
     bif Nat.ble 110 pc then
      bif Nat.ble 113 pc then
       bif Nat.beq pc 113 then some (.ireturn, 1, [], .inl 0, []) else none
      else
       bif Nat.beq pc 110 then some (.getfield 330, 3, [4, 259, 0], .inl 0, []) else none
     else
      bif Nat.ble 109 pc then
       bif Nat.beq pc 109 then some (.aload_n 3, 1, [], .inl 0, []) else none
      else
       bif Nat.beq pc 106 then some (.goto 7, 3, [], .inl 0, []) else none
    else
     bif Nat.ble 102 pc then
      bif Nat.ble 103 pc then
       bif Nat.beq pc 103 then some (.getfield 112, 3, [4, 257, 0], .inl 0, []) else none
      else
       bif Nat.beq pc 102 then some (.aload_n 3, 1, [], .inl 0, []) else none
     else
      bif Nat.ble 99 pc then
       bif Nat.beq pc 99 then some (.if_icmp .ne 10, 3, [], .inl 0, []) else none
      else
       bif Nat.beq pc 98 then some (.iconst 3, 1, [], .inl (3), []) else none
   else
    bif Nat.ble 92 pc then
     bif Nat.ble 96 pc then
      bif Nat.ble 97 pc then
       bif Nat.beq pc 97 then some (.iload_n 2, 1, [], .inl 0, []) else none
      else
       bif Nat.beq pc 96 then some (.ireturn, 1, [], .inl 0, []) else none
     else
      bif Nat.ble 95 pc then
       bif Nat.beq pc 95 then some (.iconst (-1), 1, [], .inl (-1), []) else none
      else
       bif Nat.beq pc 92 then some (.ifnonnull 5, 3, [], .inl 0, []) else none
    else
     bif Nat.ble 90 pc then
      bif Nat.ble 91 pc then
       bif Nat.beq pc 91 then some (.aload_n 3, 1, [], .inl 0, []) else none
      else
       bif Nat.beq pc 90 then some (.astore_n 3, 1, [], .inl 0, []) else none
     else
      bif Nat.ble 89 pc then
       bif Nat.beq pc 89 then some (.aconst_null, 1, [], .inl 0, []) else none
      else
       bif Nat.beq pc 86 then some (.goto 4, 3, [], .inl 0, []) else none
  else
   bif Nat.ble 72 pc then
    bif Nat.ble 78 pc then
     bif Nat.ble 82 pc then
      bif Nat.ble 83 pc then
       bif Nat.beq pc 83 then some (.invokevirtual 104, 3, [109, 2, 3, 2, 11], .inl 0, []) else none
      else
       bif Nat.beq pc 82 then some (.iload_n 1, 1, [], .inl 0, []) else none
     else
      bif Nat.ble 81 pc then
       bif Nat.beq pc 81 then some (.aload_n 0, 1, [], .inl 0, []) else none
      else
       bif Nat.beq pc 78 then some (.if_icmp .ne 11, 3, [], .inl 0, []) else none
    else
     bif Nat.ble 76 pc then
      bif Nat.ble 77 pc then
       bif Nat.beq pc 77 then some (.iconst 4, 1, [], .inl (4), []) else none
      else
       bif Nat.beq pc 76 then some (.iload_n 2, 1, [], .inl 0, []) else none
     else
      bif Nat.ble 73 pc then
       bif Nat.beq pc 73 then some (.if_icmp .eq 8, 3, [], .inl 0, []) else none
      else
       bif Nat.beq pc 72 then some (.iconst 3, 1, [], .inl (3), []) else none
   else
    bif Nat.ble 64 pc then
     bif Nat.ble 70 pc then
      bif Nat.ble 71 pc then
       bif Nat.beq pc 71 then some (.iload_n 2, 1, [], .inl 0, []) else none
      else
       bif Nat.beq pc 70 then some (.ireturn, 1, [], .inl 0, []) else none
     else
      bif Nat.ble 67 pc then
       bif Nat.beq pc 67 then some (.invokevirtual 52, 3, [14, 1, 1, 1, 0], .inl 0, []) else none
      else
       bif Nat.beq pc 64 then some (.getfield 164, 3, [9, 577, 2], .inl 0, []) else none
    else
     bif Nat.ble 60 pc then
      bif Nat.ble 63 pc then
       bif Nat.beq pc 63 then some (.aload_n 3, 1, [], .inl 0, []) else none
      else
       bif Nat.beq pc 60 then some (.goto 10, 3, [], .inl 0, []) else none
     else
      bif Nat.ble 57 pc then
       bif Nat.beq pc 57 then some (.invokevirtual 52, 3, [14, 1, 1, 1, 0], .inl 0, []) else none
      else
       bif Nat.beq pc 54 then some (.getfield 135, 3, [9, 576, 2], .inl 0, []) else none
 else
  bif Nat.ble 28 pc then
   bif Nat.ble 42 pc then
    bif Nat.ble 48 pc then
     bif Nat.ble 50 pc then
      bif Nat.ble 53 pc then
       bif Nat.beq pc 53 then some (.aload_n 3, 1, [], .inl 0, []) else none
      else
       bif Nat.beq pc 50 then some (.if_icmp .ne 13, 3, [], .inl 0, []) else none
     else
      bif Nat.ble 49 pc then
       bif Nat.beq pc 49 then some (.iconst 1, 1, [], .inl (1), []) else none
      else
       bif Nat.beq pc 48 then some (.iload_n 2, 1, [], .inl 0, []) else none
    else
     bif Nat.ble 46 pc then
      bif Nat.ble 47 pc then
       bif Nat.beq pc 47 then some (.ireturn, 1, [], .inl 0, []) else none
      else
       bif Nat.beq pc 46 then some (.iconst (-1), 1, [], .inl (-1), []) else none
     else
      bif Nat.ble 43 pc then
       bif Nat.beq pc 43 then some (.ifnonnull 5, 3, [], .inl 0, []) else none
      else
       bif Nat.beq pc 42 then some (.aload_n 3, 1, [], .inl 0, []) else none
   else
    bif Nat.ble 36 pc then
     bif Nat.ble 38 pc then
      bif Nat.ble 41 pc then
       bif Nat.beq pc 41 then some (.astore_n 3, 1, [], .inl 0, []) else none
      else
       bif Nat.beq pc 38 then some (.invokevirtual 124, 3, [108, 2, 3, 2, 11], .inl 0, []) else none
     else
      bif Nat.ble 37 pc then
       bif Nat.beq pc 37 then some (.iload_n 1, 1, [], .inl 0, []) else none
      else
       bif Nat.beq pc 36 then some (.aload_n 0, 1, [], .inl 0, []) else none
    else
     bif Nat.ble 32 pc then
      bif Nat.ble 33 pc then
       bif Nat.beq pc 33 then some (.if_icmp .ne 38, 3, [], .inl 0, []) else none
      else
       bif Nat.beq pc 32 then some (.iconst 2, 1, [], .inl (2), []) else none
     else
      bif Nat.ble 31 pc then
       bif Nat.beq pc 31 then some (.iload_n 2, 1, [], .inl 0, []) else none
      else
       bif Nat.beq pc 28 then some (.if_icmp .eq 8, 3, [], .inl 0, []) else none
  else
   bif Nat.ble 14 pc then
    bif Nat.ble 22 pc then
     bif Nat.ble 26 pc then
      bif Nat.ble 27 pc then
       bif Nat.beq pc 27 then some (.iconst 1, 1, [], .inl (1), []) else none
      else
       bif Nat.beq pc 26 then some (.iload_n 2, 1, [], .inl 0, []) else none
     else
      bif Nat.ble 25 pc then
       bif Nat.beq pc 25 then some (.ireturn, 1, [], .inl 0, []) else none
      else
       bif Nat.beq pc 22 then some (.invokevirtual 52, 3, [14, 1, 1, 1, 0], .inl 0, []) else none
    else
     bif Nat.ble 18 pc then
      bif Nat.ble 19 pc then
       bif Nat.beq pc 19 then some (.getfield 77, 3, [3, 192, 2], .inl 0, []) else none
      else
       bif Nat.beq pc 18 then some (.aload_n 3, 1, [], .inl 0, []) else none
     else
      bif Nat.ble 15 pc then
       bif Nat.beq pc 15 then some (.goto 10, 3, [], .inl 0, []) else none
      else
       bif Nat.beq pc 14 then some (.iconst (-1), 1, [], .inl (-1), []) else none
   else
    bif Nat.ble 6 pc then
     bif Nat.ble 10 pc then
      bif Nat.ble 11 pc then
       bif Nat.beq pc 11 then some (.ifnonnull 7, 3, [], .inl 0, []) else none
      else
       bif Nat.beq pc 10 then some (.aload_n 3, 1, [], .inl 0, []) else none
     else
      bif Nat.ble 9 pc then
       bif Nat.beq pc 9 then some (.astore_n 3, 1, [], .inl 0, []) else none
      else
       bif Nat.beq pc 6 then some (.invokevirtual 63, 3, [107, 2, 3, 2, 11], .inl 0, []) else none
    else
     bif Nat.ble 4 pc then
      bif Nat.ble 5 pc then
       bif Nat.beq pc 5 then some (.iload_n 1, 1, [], .inl 0, []) else none
      else
       bif Nat.beq pc 4 then some (.aload_n 0, 1, [], .inl 0, []) else none
     else
      bif Nat.ble 1 pc then
       bif Nat.beq pc 1 then some (.ifCond .ne 25, 3, [], .inl 0, []) else none
      else
       bif Nat.beq pc 0 then some (.iload_n 2, 1, [], .inl 0, []) else none
def kX11_enumerationAt (pc : Nat) : Option Ent := bif Nat.ble 31 pc then none else
 bif Nat.ble 15 pc then
  bif Nat.ble 23 pc then
   bif Nat.ble 29 pc then
    bif Nat.ble 30 pc then
     bif Nat.beq pc 30 then some (.areturn, 1, [], .inl 0, []) else none
    else
     bif Nat.beq pc 29 then some (.aconst_null, 1, [], .inl 0, []) else none
   else
    bif Nat.ble 26 pc then
     bif Nat.beq pc 26 then some (.goto 4, 3, [], .inl 0, []) else none
    else
     bif Nat.beq pc 23 then some (.checkcast 56, 3, [3], .inl 0, []) else none
  else
   bif Nat.ble 19 pc then
    bif Nat.ble 20 pc then
     bif Nat.beq pc 20 then some (.invokevirtual 190, 3, [16, 2, 3, 2, 0], .inl 0, []) else none
    else
     bif Nat.beq pc 19 then some (.iload_n 1, 1, [], .inl 0, []) else none
   else
    bif Nat.ble 16 pc then
     bif Nat.beq pc 16 then some (.getfield 10, 3, [11, 704, 2], .inl 0, []) else none
    else
     bif Nat.beq pc 15 then some (.aload_n 0, 1, [], .inl 0, []) else none
 else
  bif Nat.ble 5 pc then
   bif Nat.ble 9 pc then
    bif Nat.ble 12 pc then
     bif Nat.beq pc 12 then some (.if_icmp .ge 17, 3, [], .inl 0, []) else none
    else
     bif Nat.beq pc 9 then some (.invokevirtual 52, 3, [14, 1, 1, 1, 0], .inl 0, []) else none
   else
    bif Nat.ble 6 pc then
     bif Nat.beq pc 6 then some (.getfield 10, 3, [11, 704, 2], .inl 0, []) else none
    else
     bif Nat.beq pc 5 then some (.aload_n 0, 1, [], .inl 0, []) else none
  else
   bif Nat.ble 1 pc then
    bif Nat.ble 4 pc then
     bif Nat.beq pc 4 then some (.iload_n 1, 1, [], .inl 0, []) else none
    else
     bif Nat.beq pc 1 then some (.ifCond .lt 28, 3, [], .inl 0, []) else none
   else
    bif Nat.beq pc 0 then some (.iload_n 1, 1, [], .inl 0, []) else none
def kX11_recordAt (pc : Nat) : Option Ent := bif Nat.ble 31 pc then none else
 bif Nat.ble 15 pc then
  bif Nat.ble 23 pc then
   bif Nat.ble 29 pc then
    bif Nat.ble 30 pc then
     bif Nat.beq pc 30 then some (.areturn, 1, [], .inl 0, []) else none
    else
     bif Nat.beq pc 29 then some (.aconst_null, 1, [], .inl 0, []) else none
   else
    bif Nat.ble 26 pc then
     bif Nat.beq pc 26 then some (.goto 4, 3, [], .inl 0, []) else none
    else
     bif Nat.beq pc 23 then some (.checkcast 121, 3, [9], .inl 0, []) else none
  else
   bif Nat.ble 19 pc then
    bif Nat.ble 20 pc then
     bif Nat.beq pc 20 then some (.invokevirtual 190, 3, [16, 2, 3, 2, 0], .inl 0, []) else none
    else
     bif Nat.beq pc 19 then some (.iload_n 1, 1, [], .inl 0, []) else none
   else
    bif Nat.ble 16 pc then
     bif Nat.beq pc 16 then some (.getfield 16, 3, [11, 705, 2], .inl 0, []) else none
    else
     bif Nat.beq pc 15 then some (.aload_n 0, 1, [], .inl 0, []) else none
 else
  bif Nat.ble 5 pc then
   bif Nat.ble 9 pc then
    bif Nat.ble 12 pc then
     bif Nat.beq pc 12 then some (.if_icmp .ge 17, 3, [], .inl 0, []) else none
    else
     bif Nat.beq pc 9 then some (.invokevirtual 52, 3, [14, 1, 1, 1, 0], .inl 0, []) else none
   else
    bif Nat.ble 6 pc then
     bif Nat.beq pc 6 then some (.getfield 16, 3, [11, 705, 2], .inl 0, []) else none
    else
     bif Nat.beq pc 5 then some (.aload_n 0, 1, [], .inl 0, []) else none
  else
   bif Nat.ble 1 pc then
    bif Nat.ble 4 pc then
     bif Nat.beq pc 4 then some (.iload_n 1, 1, [], .inl 0, []) else none
    else
     bif Nat.beq pc 1 then some (.ifCond .lt 28, 3, [], .inl 0, []) else none
   else
    bif Nat.beq pc 0 then some (.iload_n 1, 1, [], .inl 0, []) else none
def kX11_familyAt (pc : Nat) : Option Ent := bif Nat.ble 31 pc then none else
 bif Nat.ble 15 pc then
  bif Nat.ble 23 pc then
   bif Nat.ble 29 pc then
    bif Nat.ble 30 pc then
     bif Nat.beq pc 30 then some (.areturn, 1, [], .inl 0, []) else none
    else
     bif Nat.beq pc 29 then some (.aconst_null, 1, [], .inl 0, []) else none
   else
    bif Nat.ble 26 pc then
     bif Nat.beq pc 26 then some (.goto 4, 3, [], .inl 0, []) else none
    else
     bif Nat.beq pc 23 then some (.checkcast 101, 3, [4], .inl 0, []) else none
  else
   bif Nat.ble 19 pc then
    bif Nat.ble 20 pc then
     bif Nat.beq pc 20 then some (.invokevirtual 190, 3, [16, 2, 3, 2, 0], .inl 0, []) else none
    else
     bif Nat.beq pc 19 then some (.iload_n 1, 1, [], .inl 0, []) else none
   else
    bif Nat.ble 16 pc then
     bif Nat.beq pc 16 then some (.getfield 19, 3, [11, 706, 2], .inl 0, []) else none
    else
     bif Nat.beq pc 15 then some (.aload_n 0, 1, [], .inl 0, []) else none
 else
  bif Nat.ble 5 pc then
   bif Nat.ble 9 pc then
    bif Nat.ble 12 pc then
     bif Nat.beq pc 12 then some (.if_icmp .ge 17, 3, [], .inl 0, []) else none
    else
     bif Nat.beq pc 9 then some (.invokevirtual 52, 3, [14, 1, 1, 1, 0], .inl 0, []) else none
   else
    bif Nat.ble 6 pc then
     bif Nat.beq pc 6 then some (.getfield 19, 3, [11, 706, 2], .inl 0, []) else none
    else
     bif Nat.beq pc 5 then some (.aload_n 0, 1, [], .inl 0, []) else none
  else
   bif Nat.ble 1 pc then
    bif Nat.ble 4 pc then
     bif Nat.beq pc 4 then some (.iload_n 1, 1, [], .inl 0, []) else none
    else
     bif Nat.beq pc 1 then some (.ifCond .lt 28, 3, [], .inl 0, []) else none
   else
    bif Nat.beq pc 0 then some (.iload_n 1, 1, [], .inl 0, []) else none
def kX11_rowAt (pc : Nat) : Option Ent := bif Nat.ble 33 pc then none else
 bif Nat.ble 13 pc then
  bif Nat.ble 22 pc then
   bif Nat.ble 28 pc then
    bif Nat.ble 31 pc then
     bif Nat.ble 32 pc then
      bif Nat.beq pc 32 then some (.areturn, 1, [], .inl 0, []) else none
     else
      bif Nat.beq pc 31 then some (.aconst_null, 1, [], .inl 0, []) else none
    else
     bif Nat.beq pc 28 then some (.goto 4, 3, [], .inl 0, []) else none
   else
    bif Nat.ble 25 pc then
     bif Nat.beq pc 25 then some (.checkcast 217, 3, [10], .inl 0, []) else none
    else
     bif Nat.beq pc 22 then some (.invokevirtual 190, 3, [16, 2, 3, 2, 0], .inl 0, []) else none
  else
   bif Nat.ble 17 pc then
    bif Nat.ble 20 pc then
     bif Nat.ble 21 pc then
      bif Nat.beq pc 21 then some (.l2i, 1, [], .inl 0, []) else none
     else
      bif Nat.beq pc 20 then some (.lload_n 1, 1, [], .inl 0, []) else none
    else
     bif Nat.beq pc 17 then some (.getfield 22, 3, [11, 707, 2], .inl 0, []) else none
   else
    bif Nat.ble 16 pc then
     bif Nat.beq pc 16 then some (.aload_n 0, 1, [], .inl 0, []) else none
    else
     bif Nat.beq pc 13 then some (.ifCond .ge 18, 3, [], .inl 0, []) else none
 else
  bif Nat.ble 6 pc then
   bif Nat.ble 8 pc then
    bif Nat.ble 11 pc then
     bif Nat.ble 12 pc then
      bif Nat.beq pc 12 then some (.lcmp, 1, [], .inl 0, []) else none
     else
      bif Nat.beq pc 11 then some (.i2l, 1, [], .inl 0, []) else none
    else
     bif Nat.beq pc 8 then some (.getfield 181, 3, [11, 708, 0], .inl 0, []) else none
   else
    bif Nat.ble 7 pc then
     bif Nat.beq pc 7 then some (.aload_n 0, 1, [], .inl 0, []) else none
    else
     bif Nat.beq pc 6 then some (.lload_n 1, 1, [], .inl 0, []) else none
  else
   bif Nat.ble 2 pc then
    bif Nat.ble 3 pc then
     bif Nat.beq pc 3 then some (.ifCond .lt 28, 3, [], .inl 0, []) else none
    else
     bif Nat.beq pc 2 then some (.lcmp, 1, [], .inl 0, []) else none
   else
    bif Nat.ble 1 pc then
     bif Nat.beq pc 1 then some (.lconst 0, 1, [], .inr (.inl (0)), []) else none
    else
     bif Nat.beq pc 0 then some (.lload_n 1, 1, [], .inl 0, []) else none
def kX11_objectAt (pc : Nat) : Option Ent := bif Nat.ble 33 pc then none else
 bif Nat.ble 13 pc then
  bif Nat.ble 22 pc then
   bif Nat.ble 28 pc then
    bif Nat.ble 31 pc then
     bif Nat.ble 32 pc then
      bif Nat.beq pc 32 then some (.areturn, 1, [], .inl 0, []) else none
     else
      bif Nat.beq pc 31 then some (.aconst_null, 1, [], .inl 0, []) else none
    else
     bif Nat.beq pc 28 then some (.goto 4, 3, [], .inl 0, []) else none
   else
    bif Nat.ble 25 pc then
     bif Nat.beq pc 25 then some (.checkcast 254, 3, [7], .inl 0, []) else none
    else
     bif Nat.beq pc 22 then some (.invokevirtual 190, 3, [16, 2, 3, 2, 0], .inl 0, []) else none
  else
   bif Nat.ble 17 pc then
    bif Nat.ble 20 pc then
     bif Nat.ble 21 pc then
      bif Nat.beq pc 21 then some (.l2i, 1, [], .inl 0, []) else none
     else
      bif Nat.beq pc 20 then some (.lload_n 1, 1, [], .inl 0, []) else none
    else
     bif Nat.beq pc 17 then some (.getfield 25, 3, [11, 710, 2], .inl 0, []) else none
   else
    bif Nat.ble 16 pc then
     bif Nat.beq pc 16 then some (.aload_n 0, 1, [], .inl 0, []) else none
    else
     bif Nat.beq pc 13 then some (.ifCond .ge 18, 3, [], .inl 0, []) else none
 else
  bif Nat.ble 6 pc then
   bif Nat.ble 8 pc then
    bif Nat.ble 11 pc then
     bif Nat.ble 12 pc then
      bif Nat.beq pc 12 then some (.lcmp, 1, [], .inl 0, []) else none
     else
      bif Nat.beq pc 11 then some (.i2l, 1, [], .inl 0, []) else none
    else
     bif Nat.beq pc 8 then some (.getfield 48, 3, [11, 711, 0], .inl 0, []) else none
   else
    bif Nat.ble 7 pc then
     bif Nat.beq pc 7 then some (.aload_n 0, 1, [], .inl 0, []) else none
    else
     bif Nat.beq pc 6 then some (.lload_n 1, 1, [], .inl 0, []) else none
  else
   bif Nat.ble 2 pc then
    bif Nat.ble 3 pc then
     bif Nat.beq pc 3 then some (.ifCond .lt 28, 3, [], .inl 0, []) else none
    else
     bif Nat.beq pc 2 then some (.lcmp, 1, [], .inl 0, []) else none
   else
    bif Nat.ble 1 pc then
     bif Nat.beq pc 1 then some (.lconst 0, 1, [], .inr (.inl (0)), []) else none
    else
     bif Nat.beq pc 0 then some (.lload_n 1, 1, [], .inl 0, []) else none
def kX11_lineAt (pc : Nat) : Option Ent := bif Nat.ble 36 pc then none else
 bif Nat.ble 16 pc then
  bif Nat.ble 25 pc then
   bif Nat.ble 31 pc then
    bif Nat.ble 34 pc then
     bif Nat.ble 35 pc then
      bif Nat.beq pc 35 then some (.areturn, 1, [], .inl 0, []) else none
     else
      bif Nat.beq pc 34 then some (.aconst_null, 1, [], .inl 0, []) else none
    else
     bif Nat.beq pc 31 then some (.goto 4, 3, [], .inl 0, []) else none
   else
    bif Nat.ble 28 pc then
     bif Nat.beq pc 28 then some (.checkcast 199, 3, [6], .inl 0, []) else none
    else
     bif Nat.beq pc 25 then some (.invokevirtual 190, 3, [16, 2, 3, 2, 0], .inl 0, []) else none
  else
   bif Nat.ble 20 pc then
    bif Nat.ble 23 pc then
     bif Nat.ble 24 pc then
      bif Nat.beq pc 24 then some (.l2i, 1, [], .inl 0, []) else none
     else
      bif Nat.beq pc 23 then some (.lload_n 1, 1, [], .inl 0, []) else none
    else
     bif Nat.beq pc 20 then some (.getfield 42, 3, [11, 719, 2], .inl 0, []) else none
   else
    bif Nat.ble 19 pc then
     bif Nat.beq pc 19 then some (.aload_n 0, 1, [], .inl 0, []) else none
    else
     bif Nat.beq pc 16 then some (.ifCond .ge 18, 3, [], .inl 0, []) else none
 else
  bif Nat.ble 7 pc then
   bif Nat.ble 11 pc then
    bif Nat.ble 14 pc then
     bif Nat.ble 15 pc then
      bif Nat.beq pc 15 then some (.lcmp, 1, [], .inl 0, []) else none
     else
      bif Nat.beq pc 14 then some (.i2l, 1, [], .inl 0, []) else none
    else
     bif Nat.beq pc 11 then some (.invokevirtual 52, 3, [14, 1, 1, 1, 0], .inl 0, []) else none
   else
    bif Nat.ble 8 pc then
     bif Nat.beq pc 8 then some (.getfield 42, 3, [11, 719, 2], .inl 0, []) else none
    else
     bif Nat.beq pc 7 then some (.aload_n 0, 1, [], .inl 0, []) else none
  else
   bif Nat.ble 2 pc then
    bif Nat.ble 3 pc then
     bif Nat.ble 6 pc then
      bif Nat.beq pc 6 then some (.lload_n 1, 1, [], .inl 0, []) else none
     else
      bif Nat.beq pc 3 then some (.ifCond .lt 31, 3, [], .inl 0, []) else none
    else
     bif Nat.beq pc 2 then some (.lcmp, 1, [], .inl 0, []) else none
   else
    bif Nat.ble 1 pc then
     bif Nat.beq pc 1 then some (.lconst 0, 1, [], .inr (.inl (0)), []) else none
    else
     bif Nat.beq pc 0 then some (.lload_n 1, 1, [], .inl 0, []) else none
def kX11_answerOf (pc : Nat) : Option Ent := bif Nat.ble 5 pc then none else
 bif Nat.ble 3 pc then
  bif Nat.ble 4 pc then
   bif Nat.beq pc 4 then some (.ireturn, 1, [], .inl 0, []) else none
  else
   bif Nat.beq pc 3 then some (.isub, 1, [], .inl 0, []) else none
 else
  bif Nat.ble 2 pc then
   bif Nat.beq pc 2 then some (.iload_n 0, 1, [], .inl 0, []) else none
  else
   bif Nat.beq pc 0 then some (.bipush (-10), 2, [], .inl (-10), []) else none
def kX11_isSort (pc : Nat) : Option Ent := bif Nat.ble 90 pc then none else
 bif Nat.ble 59 pc then
  bif Nat.ble 75 pc then
   bif Nat.ble 83 pc then
    bif Nat.ble 87 pc then
     bif Nat.ble 88 pc then
      bif Nat.ble 89 pc then
       bif Nat.beq pc 89 then some (.ireturn, 1, [1], .inl 0, []) else none
      else
       bif Nat.beq pc 88 then some (.iconst 1, 1, [], .inl (1), []) else none
     else
      bif Nat.beq pc 87 then some (.ireturn, 1, [1], .inl 0, []) else none
    else
     bif Nat.ble 86 pc then
      bif Nat.beq pc 86 then some (.iconst 0, 1, [], .inl (0), []) else none
     else
      bif Nat.beq pc 83 then some (.goto 4, 3, [], .inl 0, []) else none
   else
    bif Nat.ble 79 pc then
     bif Nat.ble 82 pc then
      bif Nat.beq pc 82 then some (.iconst 1, 1, [], .inl (1), []) else none
     else
      bif Nat.beq pc 79 then some (.ifnull 7, 3, [], .inl 0, []) else none
    else
     bif Nat.ble 76 pc then
      bif Nat.beq pc 76 then some (.invokevirtual 104, 3, [109, 2, 3, 2, 11], .inl 0, []) else none
     else
      bif Nat.beq pc 75 then some (.iload_n 2, 1, [], .inl 0, []) else none
  else
   bif Nat.ble 68 pc then
    bif Nat.ble 72 pc then
     bif Nat.ble 73 pc then
      bif Nat.ble 74 pc then
       bif Nat.beq pc 74 then some (.aload_n 0, 1, [], .inl 0, []) else none
      else
       bif Nat.beq pc 73 then some (.ireturn, 1, [1], .inl 0, []) else none
     else
      bif Nat.beq pc 72 then some (.iconst 0, 1, [], .inl (0), []) else none
    else
     bif Nat.ble 69 pc then
      bif Nat.beq pc 69 then some (.goto 4, 3, [], .inl 0, []) else none
     else
      bif Nat.beq pc 68 then some (.iconst 1, 1, [], .inl (1), []) else none
   else
    bif Nat.ble 63 pc then
     bif Nat.ble 65 pc then
      bif Nat.beq pc 65 then some (.if_icmp .gt 7, 3, [], .inl 0, []) else none
     else
      bif Nat.beq pc 63 then some (.bipush 7, 2, [], .inl (7), []) else none
    else
     bif Nat.ble 62 pc then
      bif Nat.beq pc 62 then some (.iload_n 2, 1, [], .inl 0, []) else none
     else
      bif Nat.beq pc 59 then some (.ifCond .lt 13, 3, [], .inl 0, []) else none
 else
  bif Nat.ble 44 pc then
   bif Nat.ble 52 pc then
    bif Nat.ble 56 pc then
     bif Nat.ble 57 pc then
      bif Nat.ble 58 pc then
       bif Nat.beq pc 58 then some (.iload_n 2, 1, [], .inl 0, []) else none
      else
       bif Nat.beq pc 57 then some (.ireturn, 1, [1], .inl 0, []) else none
     else
      bif Nat.beq pc 56 then some (.iconst 0, 1, [], .inl (0), []) else none
    else
     bif Nat.ble 53 pc then
      bif Nat.beq pc 53 then some (.goto 4, 3, [], .inl 0, []) else none
     else
      bif Nat.beq pc 52 then some (.iconst 1, 1, [], .inl (1), []) else none
   else
    bif Nat.ble 46 pc then
     bif Nat.ble 49 pc then
      bif Nat.beq pc 49 then some (.ifnull 7, 3, [], .inl 0, []) else none
     else
      bif Nat.beq pc 46 then some (.invokevirtual 63, 3, [107, 2, 3, 2, 11], .inl 0, []) else none
    else
     bif Nat.ble 45 pc then
      bif Nat.beq pc 45 then some (.iload_n 2, 1, [], .inl 0, []) else none
     else
      bif Nat.beq pc 44 then some (.aload_n 0, 1, [], .inl 0, []) else none
  else
   bif Nat.ble 7 pc then
    bif Nat.ble 11 pc then
     bif Nat.ble 12 pc then
      bif Nat.ble 13 pc then
       bif Nat.beq pc 13 then some (.tableswitch 75 8 11 #[31, 31, 45, 61], 31, [], .inl 0, []) else none
      else
       bif Nat.beq pc 12 then some (.iload_n 1, 1, [], .inl 0, []) else none
     else
      bif Nat.beq pc 11 then some (.ireturn, 1, [1], .inl 0, []) else none
    else
     bif Nat.ble 10 pc then
      bif Nat.beq pc 10 then some (.iconst 0, 1, [], .inl (0), []) else none
     else
      bif Nat.beq pc 7 then some (.if_icmp .le 5, 3, [], .inl 0, []) else none
   else
    bif Nat.ble 4 pc then
     bif Nat.ble 5 pc then
      bif Nat.beq pc 5 then some (.bipush 11, 2, [], .inl (11), []) else none
     else
      bif Nat.beq pc 4 then some (.iload_n 1, 1, [], .inl 0, []) else none
    else
     bif Nat.ble 1 pc then
      bif Nat.beq pc 1 then some (.ifCond .lt 9, 3, [], .inl 0, []) else none
     else
      bif Nat.beq pc 0 then some (.iload_n 1, 1, [], .inl 0, []) else none
def kX11_gatherLeaves (pc : Nat) : Option Ent := bif Nat.ble 90 pc then none else
 bif Nat.ble 41 pc then
  bif Nat.ble 61 pc then
   bif Nat.ble 74 pc then
    bif Nat.ble 83 pc then
     bif Nat.ble 86 pc then
      bif Nat.ble 89 pc then
       bif Nat.beq pc 89 then some (.return_, 1, [], .inl 0, []) else none
      else
       bif Nat.beq pc 86 then some (.goto (-84), 3, [], .inl 0, []) else none
     else
      bif Nat.beq pc 83 then some (.iinc 1 1, 3, [], .inl (1), []) else none
    else
     bif Nat.ble 77 pc then
      bif Nat.ble 80 pc then
       bif Nat.beq pc 80 then some (.goto (-48), 3, [], .inl 0, []) else none
      else
       bif Nat.beq pc 77 then some (.iinc 3 1, 3, [], .inl (1), []) else none
     else
      bif Nat.beq pc 74 then some (.invokevirtual 337, 3, [52, 2, 0, 2, 4], .inl 0, []) else none
   else
    bif Nat.ble 68 pc then
     bif Nat.ble 71 pc then
      bif Nat.ble 72 pc then
       bif Nat.beq pc 72 then some (.iload 4, 2, [], .inl 0, []) else none
      else
       bif Nat.beq pc 71 then some (.aload_n 2, 1, [], .inl 0, []) else none
     else
      bif Nat.beq pc 68 then some (.goto 9, 3, [], .inl 0, []) else none
    else
     bif Nat.ble 62 pc then
      bif Nat.ble 65 pc then
       bif Nat.beq pc 65 then some (.invokevirtual 333, 3, [53, 2, 0, 3, 4], .inl 0, []) else none
      else
       bif Nat.beq pc 62 then some (.invokevirtual 104, 3, [109, 2, 3, 2, 11], .inl 0, []) else none
     else
      bif Nat.beq pc 61 then some (.isub, 1, [], .inl 0, []) else none
  else
   bif Nat.ble 50 pc then
    bif Nat.ble 56 pc then
     bif Nat.ble 57 pc then
      bif Nat.ble 59 pc then
       bif Nat.beq pc 59 then some (.bipush 10, 2, [], .inl (10), []) else none
      else
       bif Nat.beq pc 57 then some (.iload 4, 2, [], .inl 0, []) else none
     else
      bif Nat.beq pc 56 then some (.aload_n 0, 1, [], .inl 0, []) else none
    else
     bif Nat.ble 52 pc then
      bif Nat.ble 55 pc then
       bif Nat.beq pc 55 then some (.aload_n 2, 1, [], .inl 0, []) else none
      else
       bif Nat.beq pc 52 then some (.if_icmp .lt 19, 3, [], .inl 0, []) else none
     else
      bif Nat.beq pc 50 then some (.bipush 10, 2, [], .inl (10), []) else none
   else
    bif Nat.ble 45 pc then
     bif Nat.ble 46 pc then
      bif Nat.ble 48 pc then
       bif Nat.beq pc 48 then some (.iload 4, 2, [], .inl 0, []) else none
      else
       bif Nat.beq pc 46 then some (.istore 4, 2, [], .inl 0, []) else none
     else
      bif Nat.beq pc 45 then some (.iaload, 1, [], .inl 0, []) else none
    else
     bif Nat.ble 44 pc then
      bif Nat.beq pc 44 then some (.iload_n 3, 1, [], .inl 0, []) else none
     else
      bif Nat.beq pc 41 then some (.getfield 115, 3, [4, 256, 2], .inl 0, []) else none
 else
  bif Nat.ble 21 pc then
   bif Nat.ble 31 pc then
    bif Nat.ble 34 pc then
     bif Nat.ble 37 pc then
      bif Nat.ble 40 pc then
       bif Nat.beq pc 40 then some (.aload_n 2, 1, [], .inl 0, []) else none
      else
       bif Nat.beq pc 37 then some (.if_icmp .ge 46, 3, [], .inl 0, []) else none
     else
      bif Nat.beq pc 34 then some (.getfield 112, 3, [4, 257, 0], .inl 0, []) else none
    else
     bif Nat.ble 32 pc then
      bif Nat.ble 33 pc then
       bif Nat.beq pc 33 then some (.aload_n 2, 1, [], .inl 0, []) else none
      else
       bif Nat.beq pc 32 then some (.iload_n 3, 1, [], .inl 0, [4]) else none
     else
      bif Nat.beq pc 31 then some (.istore_n 3, 1, [], .inl 0, []) else none
   else
    bif Nat.ble 26 pc then
     bif Nat.ble 27 pc then
      bif Nat.ble 30 pc then
       bif Nat.beq pc 30 then some (.iconst 0, 1, [], .inl (0), []) else none
      else
       bif Nat.beq pc 27 then some (.putfield 330, 3, [4, 259, 0], .inl 0, []) else none
     else
      bif Nat.beq pc 26 then some (.iconst 0, 1, [], .inl (0), []) else none
    else
     bif Nat.ble 24 pc then
      bif Nat.ble 25 pc then
       bif Nat.beq pc 25 then some (.aload_n 2, 1, [], .inl 0, []) else none
      else
       bif Nat.beq pc 24 then some (.astore_n 2, 1, [], .inl 0, []) else none
     else
      bif Nat.beq pc 21 then some (.checkcast 101, 3, [4], .inl 0, []) else none
  else
   bif Nat.ble 7 pc then
    bif Nat.ble 14 pc then
     bif Nat.ble 17 pc then
      bif Nat.ble 18 pc then
       bif Nat.beq pc 18 then some (.invokevirtual 190, 3, [16, 2, 3, 2, 0], .inl 0, []) else none
      else
       bif Nat.beq pc 17 then some (.iload_n 1, 1, [], .inl 0, []) else none
     else
      bif Nat.beq pc 14 then some (.getfield 19, 3, [11, 706, 2], .inl 0, []) else none
    else
     bif Nat.ble 10 pc then
      bif Nat.ble 13 pc then
       bif Nat.beq pc 13 then some (.aload_n 0, 1, [], .inl 0, []) else none
      else
       bif Nat.beq pc 10 then some (.if_icmp .ge 79, 3, [], .inl 0, []) else none
     else
      bif Nat.beq pc 7 then some (.invokevirtual 52, 3, [14, 1, 1, 1, 0], .inl 0, []) else none
   else
    bif Nat.ble 2 pc then
     bif Nat.ble 3 pc then
      bif Nat.ble 4 pc then
       bif Nat.beq pc 4 then some (.getfield 19, 3, [11, 706, 2], .inl 0, []) else none
      else
       bif Nat.beq pc 3 then some (.aload_n 0, 1, [], .inl 0, []) else none
     else
      bif Nat.beq pc 2 then some (.iload_n 1, 1, [], .inl 0, [2, 3, 4]) else none
    else
     bif Nat.ble 1 pc then
      bif Nat.beq pc 1 then some (.istore_n 1, 1, [], .inl 0, []) else none
     else
      bif Nat.beq pc 0 then some (.iconst 0, 1, [], .inl (0), []) else none
def kX11_startRecord (pc : Nat) : Option Ent := bif Nat.ble 19 pc then none else
 bif Nat.ble 9 pc then
  bif Nat.ble 14 pc then
   bif Nat.ble 15 pc then
    bif Nat.ble 18 pc then
     bif Nat.beq pc 18 then some (.return_, 1, [], .inl 0, []) else none
    else
     bif Nat.beq pc 15 then some (.invokevirtual 340, 3, [118, 2, 0, 2, 11], .inl 0, []) else none
   else
    bif Nat.beq pc 14 then some (.iload_n 1, 1, [], .inl 0, []) else none
  else
   bif Nat.ble 10 pc then
    bif Nat.ble 13 pc then
     bif Nat.beq pc 13 then some (.aload_n 0, 1, [], .inl 0, []) else none
    else
     bif Nat.beq pc 10 then some (.putfield 196, 3, [9, 578, 3], .inl 0, []) else none
   else
    bif Nat.beq pc 9 then some (.iconst 1, 1, [], .inl (1), []) else none
 else
  bif Nat.ble 4 pc then
   bif Nat.ble 7 pc then
    bif Nat.ble 8 pc then
     bif Nat.beq pc 8 then some (.aload_n 2, 1, [], .inl 0, []) else none
    else
     bif Nat.beq pc 7 then some (.return_, 1, [], .inl 0, []) else none
   else
    bif Nat.beq pc 4 then some (.ifCond .eq 4, 3, [], .inl 0, []) else none
  else
   bif Nat.ble 1 pc then
    bif Nat.beq pc 1 then some (.getfield 196, 3, [9, 578, 0], .inl 0, []) else none
   else
    bif Nat.beq pc 0 then some (.aload_n 2, 1, [], .inl 0, []) else none
def kX11_startEnumeration (pc : Nat) : Option Ent := bif Nat.ble 59 pc then none else
 bif Nat.ble 30 pc then
  bif Nat.ble 45 pc then
   bif Nat.ble 52 pc then
    bif Nat.ble 54 pc then
     bif Nat.ble 57 pc then
      bif Nat.ble 58 pc then
       bif Nat.beq pc 58 then some (.ireturn, 1, [], .inl 0, []) else none
      else
       bif Nat.beq pc 57 then some (.iconst 0, 1, [], .inl (0), []) else none
     else
      bif Nat.beq pc 54 then some (.invokevirtual 340, 3, [118, 2, 0, 2, 11], .inl 0, []) else none
    else
     bif Nat.ble 53 pc then
      bif Nat.beq pc 53 then some (.iadd, 1, [], .inl 0, []) else none
     else
      bif Nat.beq pc 52 then some (.iload_n 1, 1, [], .inl 0, []) else none
   else
    bif Nat.ble 49 pc then
     bif Nat.ble 50 pc then
      bif Nat.beq pc 50 then some (.bipush 10, 2, [], .inl (10), []) else none
     else
      bif Nat.beq pc 49 then some (.aload_n 0, 1, [], .inl 0, []) else none
    else
     bif Nat.ble 46 pc then
      bif Nat.beq pc 46 then some (.putfield 343, 3, [3, 194, 3], .inl 0, []) else none
     else
      bif Nat.beq pc 45 then some (.iconst 1, 1, [], .inl (1), []) else none
  else
   bif Nat.ble 38 pc then
    bif Nat.ble 43 pc then
     bif Nat.ble 44 pc then
      bif Nat.beq pc 44 then some (.aload_n 2, 1, [], .inl 0, []) else none
     else
      bif Nat.beq pc 43 then some (.ireturn, 1, [], .inl 0, []) else none
    else
     bif Nat.ble 41 pc then
      bif Nat.beq pc 41 then some (.bipush 9, 2, [], .inl (9), []) else none
     else
      bif Nat.beq pc 38 then some (.putfield 344, 3, [3, 195, 3], .inl 0, []) else none
   else
    bif Nat.ble 36 pc then
     bif Nat.ble 37 pc then
      bif Nat.beq pc 37 then some (.iconst 1, 1, [], .inl (1), []) else none
     else
      bif Nat.beq pc 36 then some (.aload_n 2, 1, [], .inl 0, []) else none
    else
     bif Nat.ble 33 pc then
      bif Nat.beq pc 33 then some (.ifCond .eq 11, 3, [], .inl 0, []) else none
     else
      bif Nat.beq pc 30 then some (.getfield 97, 3, [3, 193, 0], .inl 0, []) else none
 else
  bif Nat.ble 14 pc then
   bif Nat.ble 20 pc then
    bif Nat.ble 26 pc then
     bif Nat.ble 28 pc then
      bif Nat.ble 29 pc then
       bif Nat.beq pc 29 then some (.aload_n 2, 1, [], .inl 0, []) else none
      else
       bif Nat.beq pc 28 then some (.ireturn, 1, [], .inl 0, []) else none
     else
      bif Nat.beq pc 26 then some (.bipush 10, 2, [], .inl (10), []) else none
    else
     bif Nat.ble 23 pc then
      bif Nat.beq pc 23 then some (.ifCond .eq 6, 3, [], .inl 0, []) else none
     else
      bif Nat.beq pc 20 then some (.getfield 344, 3, [3, 195, 0], .inl 0, []) else none
   else
    bif Nat.ble 18 pc then
     bif Nat.ble 19 pc then
      bif Nat.beq pc 19 then some (.aload_n 2, 1, [], .inl 0, []) else none
     else
      bif Nat.beq pc 18 then some (.ireturn, 1, [], .inl 0, []) else none
    else
     bif Nat.ble 17 pc then
      bif Nat.beq pc 17 then some (.iconst 0, 1, [], .inl (0), []) else none
     else
      bif Nat.beq pc 14 then some (.ifCond .eq 5, 3, [], .inl 0, []) else none
  else
   bif Nat.ble 6 pc then
    bif Nat.ble 10 pc then
     bif Nat.ble 11 pc then
      bif Nat.beq pc 11 then some (.getfield 343, 3, [3, 194, 0], .inl 0, []) else none
     else
      bif Nat.beq pc 10 then some (.aload_n 2, 1, [], .inl 0, []) else none
    else
     bif Nat.ble 7 pc then
      bif Nat.beq pc 7 then some (.ifnull 10, 3, [], .inl 0, []) else none
     else
      bif Nat.beq pc 6 then some (.aload_n 2, 1, [], .inl 0, []) else none
   else
    bif Nat.ble 2 pc then
     bif Nat.ble 5 pc then
      bif Nat.beq pc 5 then some (.astore_n 2, 1, [], .inl 0, []) else none
     else
      bif Nat.beq pc 2 then some (.invokevirtual 63, 3, [107, 2, 3, 2, 11], .inl 0, []) else none
    else
     bif Nat.ble 1 pc then
      bif Nat.beq pc 1 then some (.iload_n 1, 1, [], .inl 0, []) else none
     else
      bif Nat.beq pc 0 then some (.aload_n 0, 1, [], .inl 0, []) else none
def kX11_noteStart (pc : Nat) : Option Ent := bif Nat.ble 30 pc then none else
 bif Nat.ble 17 pc then
  bif Nat.ble 23 pc then
   bif Nat.ble 27 pc then
    bif Nat.ble 28 pc then
     bif Nat.ble 29 pc then
      bif Nat.beq pc 29 then some (.return_, 1, [], .inl 0, []) else none
     else
      bif Nat.beq pc 28 then some (.iastore, 1, [], .inl 0, []) else none
    else
     bif Nat.beq pc 27 then some (.iload_n 1, 1, [], .inl 0, []) else none
   else
    bif Nat.ble 24 pc then
     bif Nat.beq pc 24 then some (.putfield 187, 3, [11, 715, 0], .inl 0, []) else none
    else
     bif Nat.beq pc 23 then some (.iadd, 1, [], .inl 0, []) else none
  else
   bif Nat.ble 21 pc then
    bif Nat.ble 22 pc then
     bif Nat.beq pc 22 then some (.iconst 1, 1, [], .inl (1), []) else none
    else
     bif Nat.beq pc 21 then some (.dup_x1, 1, [], .inl 0, []) else none
   else
    bif Nat.ble 18 pc then
     bif Nat.beq pc 18 then some (.getfield 187, 3, [11, 715, 0], .inl 0, []) else none
    else
     bif Nat.beq pc 17 then some (.dup, 1, [], .inl 0, []) else none
 else
  bif Nat.ble 8 pc then
   bif Nat.ble 12 pc then
    bif Nat.ble 13 pc then
     bif Nat.ble 16 pc then
      bif Nat.beq pc 16 then some (.aload_n 0, 1, [], .inl 0, []) else none
     else
      bif Nat.beq pc 13 then some (.getfield 28, 3, [11, 714, 2], .inl 0, []) else none
    else
     bif Nat.beq pc 12 then some (.aload_n 0, 1, [], .inl 0, []) else none
   else
    bif Nat.ble 9 pc then
     bif Nat.beq pc 9 then some (.if_icmp .ge 20, 3, [], .inl 0, []) else none
    else
     bif Nat.beq pc 8 then some (.arraylength, 1, [], .inl 0, []) else none
  else
   bif Nat.ble 4 pc then
    bif Nat.ble 5 pc then
     bif Nat.beq pc 5 then some (.getfield 28, 3, [11, 714, 2], .inl 0, []) else none
    else
     bif Nat.beq pc 4 then some (.aload_n 0, 1, [], .inl 0, []) else none
   else
    bif Nat.ble 1 pc then
     bif Nat.beq pc 1 then some (.getfield 187, 3, [11, 715, 0], .inl 0, []) else none
    else
     bif Nat.beq pc 0 then some (.aload_n 0, 1, [], .inl 0, []) else none
def kX11_startFor (pc : Nat) : Option Ent := bif Nat.ble 57 pc then none else
 bif Nat.ble 28 pc then
  bif Nat.ble 41 pc then
   bif Nat.ble 49 pc then
    bif Nat.ble 55 pc then
     bif Nat.ble 56 pc then
      bif Nat.beq pc 56 then some (.ireturn, 1, [], .inl 0, []) else none
     else
      bif Nat.beq pc 55 then some (.iconst 0, 1, [], .inl (0), []) else none
    else
     bif Nat.ble 52 pc then
      bif Nat.beq pc 52 then some (.goto 4, 3, [], .inl 0, []) else none
     else
      bif Nat.beq pc 49 then some (.invokevirtual 270, 3, [117, 2, 1, 3, 11], .inl 0, []) else none
   else
    bif Nat.ble 45 pc then
     bif Nat.ble 46 pc then
      bif Nat.beq pc 46 then some (.getfield 349, 3, [8, 514, 0], .inl 0, []) else none
     else
      bif Nat.beq pc 45 then some (.aload_n 1, 1, [], .inl 0, []) else none
    else
     bif Nat.ble 44 pc then
      bif Nat.beq pc 44 then some (.aload_n 0, 1, [], .inl 0, []) else none
     else
      bif Nat.beq pc 41 then some (.ifCond .eq 14, 3, [], .inl 0, []) else none
  else
   bif Nat.ble 33 pc then
    bif Nat.ble 37 pc then
     bif Nat.ble 39 pc then
      bif Nat.beq pc 39 then some (.iload 4, 2, [], .inl 0, []) else none
     else
      bif Nat.beq pc 37 then some (.istore 4, 2, [], .inl 0, []) else none
    else
     bif Nat.ble 36 pc then
      bif Nat.beq pc 36 then some (.iconst 0, 1, [], .inl (0), []) else none
     else
      bif Nat.beq pc 33 then some (.goto 4, 3, [], .inl 0, []) else none
   else
    bif Nat.ble 29 pc then
     bif Nat.ble 32 pc then
      bif Nat.beq pc 32 then some (.iconst 1, 1, [], .inl (1), []) else none
     else
      bif Nat.beq pc 29 then some (.ifCond .eq 7, 3, [], .inl 0, []) else none
    else
     bif Nat.beq pc 28 then some (.lcmp, 1, [], .inl 0, []) else none
 else
  bif Nat.ble 14 pc then
   bif Nat.ble 21 pc then
    bif Nat.ble 26 pc then
     bif Nat.ble 27 pc then
      bif Nat.beq pc 27 then some (.lconst 0, 1, [], .inr (.inl (0)), []) else none
     else
      bif Nat.beq pc 26 then some (.lload_n 2, 1, [], .inl 0, []) else none
    else
     bif Nat.ble 23 pc then
      bif Nat.beq pc 23 then some (.if_icmp .ne 13, 3, [], .inl 0, []) else none
     else
      bif Nat.beq pc 21 then some (.bipush 9, 2, [], .inl (9), []) else none
   else
    bif Nat.ble 17 pc then
     bif Nat.ble 18 pc then
      bif Nat.beq pc 18 then some (.getfield 158, 3, [8, 513, 0], .inl 0, []) else none
     else
      bif Nat.beq pc 17 then some (.aload_n 1, 1, [], .inl 0, []) else none
    else
     bif Nat.beq pc 14 then some (.ifCond .ne 18, 3, [], .inl 0, []) else none
  else
   bif Nat.ble 6 pc then
    bif Nat.ble 10 pc then
     bif Nat.ble 13 pc then
      bif Nat.beq pc 13 then some (.lcmp, 1, [], .inl 0, []) else none
     else
      bif Nat.beq pc 10 then some (.ldc2_w 347, 3, [], .inr (.inl (-1)), []) else none
    else
     bif Nat.ble 9 pc then
      bif Nat.beq pc 9 then some (.lload_n 2, 1, [], .inl 0, []) else none
     else
      bif Nat.beq pc 6 then some (.if_icmp .ne 11, 3, [], .inl 0, []) else none
   else
    bif Nat.ble 1 pc then
     bif Nat.ble 4 pc then
      bif Nat.beq pc 4 then some (.bipush 8, 2, [], .inl (8), []) else none
     else
      bif Nat.beq pc 1 then some (.getfield 158, 3, [8, 513, 0], .inl 0, []) else none
    else
     bif Nat.beq pc 0 then some (.aload_n 1, 1, [], .inl 0, []) else none
def kX11_addRow (pc : Nat) : Option Ent := bif Nat.ble 60 pc then none else
 bif Nat.ble 33 pc then
  bif Nat.ble 48 pc then
   bif Nat.ble 54 pc then
    bif Nat.ble 56 pc then
     bif Nat.ble 59 pc then
      bif Nat.beq pc 59 then some (.ireturn, 1, [], .inl 0, []) else none
     else
      bif Nat.beq pc 56 then some (.putfield 181, 3, [11, 708, 0], .inl 0, []) else none
    else
     bif Nat.ble 55 pc then
      bif Nat.beq pc 55 then some (.iadd, 1, [], .inl 0, []) else none
     else
      bif Nat.beq pc 54 then some (.iconst 1, 1, [], .inl (1), []) else none
   else
    bif Nat.ble 50 pc then
     bif Nat.ble 53 pc then
      bif Nat.beq pc 53 then some (.dup_x1, 1, [], .inl 0, []) else none
     else
      bif Nat.beq pc 50 then some (.getfield 181, 3, [11, 708, 0], .inl 0, []) else none
    else
     bif Nat.ble 49 pc then
      bif Nat.beq pc 49 then some (.dup, 1, [], .inl 0, []) else none
     else
      bif Nat.beq pc 48 then some (.aload_n 0, 1, [], .inl 0, []) else none
  else
   bif Nat.ble 40 pc then
    bif Nat.ble 44 pc then
     bif Nat.ble 45 pc then
      bif Nat.beq pc 45 then some (.invokevirtual 351, 3, [70, 3, 0, 3, 10], .inl 0, []) else none
     else
      bif Nat.beq pc 44 then some (.iload_n 2, 1, [], .inl 0, []) else none
    else
     bif Nat.ble 43 pc then
      bif Nat.beq pc 43 then some (.iload_n 1, 1, [], .inl 0, []) else none
     else
      bif Nat.beq pc 40 then some (.checkcast 217, 3, [10], .inl 0, []) else none
   else
    bif Nat.ble 34 pc then
     bif Nat.ble 37 pc then
      bif Nat.beq pc 37 then some (.invokevirtual 190, 3, [16, 2, 3, 2, 0], .inl 0, []) else none
     else
      bif Nat.beq pc 34 then some (.getfield 181, 3, [11, 708, 0], .inl 0, []) else none
    else
     bif Nat.beq pc 33 then some (.aload_n 0, 1, [], .inl 0, []) else none
 else
  bif Nat.ble 15 pc then
   bif Nat.ble 25 pc then
    bif Nat.ble 29 pc then
     bif Nat.ble 30 pc then
      bif Nat.beq pc 30 then some (.getfield 22, 3, [11, 707, 2], .inl 0, []) else none
     else
      bif Nat.beq pc 29 then some (.aload_n 0, 1, [], .inl 0, []) else none
    else
     bif Nat.ble 28 pc then
      bif Nat.beq pc 28 then some (.pop, 1, [], .inl 0, []) else none
     else
      bif Nat.beq pc 25 then some (.invokevirtual 59, 3, [19, 2, 1, 2, 0], .inl 0, []) else none
   else
    bif Nat.ble 21 pc then
     bif Nat.ble 22 pc then
      bif Nat.beq pc 22 then some (.invokespecial 350, 3, [69, 1, 0, 1, 10], .inl 0, []) else none
     else
      bif Nat.beq pc 21 then some (.dup, 1, [], .inl 0, []) else none
    else
     bif Nat.ble 18 pc then
      bif Nat.beq pc 18 then some (.new 217, 3, [10, 3], .inl 0, []) else none
     else
      bif Nat.beq pc 15 then some (.getfield 22, 3, [11, 707, 2], .inl 0, []) else none
  else
   bif Nat.ble 5 pc then
    bif Nat.ble 11 pc then
     bif Nat.ble 14 pc then
      bif Nat.beq pc 14 then some (.aload_n 0, 1, [], .inl 0, []) else none
     else
      bif Nat.beq pc 11 then some (.if_icmp .ne 18, 3, [], .inl 0, []) else none
    else
     bif Nat.ble 8 pc then
      bif Nat.beq pc 8 then some (.invokevirtual 52, 3, [14, 1, 1, 1, 0], .inl 0, []) else none
     else
      bif Nat.beq pc 5 then some (.getfield 22, 3, [11, 707, 2], .inl 0, []) else none
   else
    bif Nat.ble 1 pc then
     bif Nat.ble 4 pc then
      bif Nat.beq pc 4 then some (.aload_n 0, 1, [], .inl 0, []) else none
     else
      bif Nat.beq pc 1 then some (.getfield 181, 3, [11, 708, 0], .inl 0, []) else none
    else
     bif Nat.beq pc 0 then some (.aload_n 0, 1, [], .inl 0, []) else none
def kX11_draftFits (pc : Nat) : Option Ent := bif Nat.ble 47 pc then none else
 bif Nat.ble 22 pc then
  bif Nat.ble 34 pc then
   bif Nat.ble 39 pc then
    bif Nat.ble 45 pc then
     bif Nat.ble 46 pc then
      bif Nat.beq pc 46 then some (.ireturn, 1, [1], .inl 0, []) else none
     else
      bif Nat.beq pc 45 then some (.iconst 1, 1, [], .inl (1), []) else none
    else
     bif Nat.ble 42 pc then
      bif Nat.beq pc 42 then some (.goto (-40), 3, [], .inl 0, []) else none
     else
      bif Nat.beq pc 39 then some (.iinc 2 1, 3, [], .inl (1), []) else none
   else
    bif Nat.ble 37 pc then
     bif Nat.ble 38 pc then
      bif Nat.beq pc 38 then some (.ireturn, 1, [1], .inl 0, []) else none
     else
      bif Nat.beq pc 37 then some (.iconst 0, 1, [], .inl (0), []) else none
    else
     bif Nat.beq pc 34 then some (.ifCond .ne 5, 3, [], .inl 0, []) else none
  else
   bif Nat.ble 29 pc then
    bif Nat.ble 30 pc then
     bif Nat.ble 31 pc then
      bif Nat.beq pc 31 then some (.invokevirtual 355, 3, [122, 3, 1, 5, 11], .inl 0, []) else none
     else
      bif Nat.beq pc 30 then some (.laload, 1, [], .inl 0, []) else none
    else
     bif Nat.beq pc 29 then some (.iload_n 2, 1, [], .inl 0, []) else none
   else
    bif Nat.ble 25 pc then
     bif Nat.ble 26 pc then
      bif Nat.beq pc 26 then some (.getfield 32, 3, [11, 716, 2], .inl 0, []) else none
     else
      bif Nat.beq pc 25 then some (.aload_n 0, 1, [], .inl 0, []) else none
    else
     bif Nat.beq pc 22 then some (.checkcast 138, 3, [8], .inl 0, []) else none
 else
  bif Nat.ble 10 pc then
   bif Nat.ble 15 pc then
    bif Nat.ble 18 pc then
     bif Nat.ble 19 pc then
      bif Nat.beq pc 19 then some (.invokevirtual 190, 3, [16, 2, 3, 2, 0], .inl 0, []) else none
     else
      bif Nat.beq pc 18 then some (.iload_n 2, 1, [], .inl 0, []) else none
    else
     bif Nat.beq pc 15 then some (.getfield 135, 3, [9, 576, 2], .inl 0, []) else none
   else
    bif Nat.ble 13 pc then
     bif Nat.ble 14 pc then
      bif Nat.beq pc 14 then some (.aload_n 1, 1, [], .inl 0, []) else none
     else
      bif Nat.beq pc 13 then some (.aload_n 0, 1, [], .inl 0, []) else none
    else
     bif Nat.beq pc 10 then some (.if_icmp .ge 35, 3, [], .inl 0, []) else none
  else
   bif Nat.ble 3 pc then
    bif Nat.ble 4 pc then
     bif Nat.ble 7 pc then
      bif Nat.beq pc 7 then some (.invokevirtual 52, 3, [14, 1, 1, 1, 0], .inl 0, []) else none
     else
      bif Nat.beq pc 4 then some (.getfield 135, 3, [9, 576, 2], .inl 0, []) else none
    else
     bif Nat.beq pc 3 then some (.aload_n 1, 1, [], .inl 0, []) else none
   else
    bif Nat.ble 1 pc then
     bif Nat.ble 2 pc then
      bif Nat.beq pc 2 then some (.iload_n 2, 1, [], .inl 0, []) else none
     else
      bif Nat.beq pc 1 then some (.istore_n 2, 1, [], .inl 0, []) else none
    else
     bif Nat.beq pc 0 then some (.iconst 0, 1, [], .inl (0), []) else none
def kX11_fits (pc : Nat) : Option Ent := bif Nat.ble 127 pc then none else
 bif Nat.ble 61 pc then
  bif Nat.ble 95 pc then
   bif Nat.ble 109 pc then
    bif Nat.ble 118 pc then
     bif Nat.ble 122 pc then
      bif Nat.ble 125 pc then
       bif Nat.ble 126 pc then
        bif Nat.beq pc 126 then some (.ireturn, 1, [1], .inl 0, []) else none
       else
        bif Nat.beq pc 125 then some (.iconst 0, 1, [], .inl (0), []) else none
      else
       bif Nat.beq pc 122 then some (.goto 4, 3, [], .inl 0, []) else none
     else
      bif Nat.ble 121 pc then
       bif Nat.beq pc 121 then some (.iconst 1, 1, [], .inl (1), []) else none
      else
       bif Nat.beq pc 118 then some (.ifCond .eq 7, 3, [], .inl 0, []) else none
    else
     bif Nat.ble 112 pc then
      bif Nat.ble 115 pc then
       bif Nat.beq pc 115 then some (.invokevirtual 366, 3, [125, 3, 1, 4, 11], .inl 0, []) else none
      else
       bif Nat.beq pc 112 then some (.getfield 349, 3, [8, 514, 0], .inl 0, []) else none
     else
      bif Nat.ble 111 pc then
       bif Nat.beq pc 111 then some (.aload_n 1, 1, [], .inl 0, []) else none
      else
       bif Nat.beq pc 109 then some (.aload 4, 2, [], .inl 0, []) else none
   else
    bif Nat.ble 101 pc then
     bif Nat.ble 105 pc then
      bif Nat.ble 108 pc then
       bif Nat.beq pc 108 then some (.aload_n 0, 1, [], .inl 0, []) else none
      else
       bif Nat.beq pc 105 then some (.ifnull 20, 3, [], .inl 0, []) else none
     else
      bif Nat.ble 103 pc then
       bif Nat.beq pc 103 then some (.aload 4, 2, [], .inl 0, []) else none
      else
       bif Nat.beq pc 101 then some (.astore 4, 2, [], .inl 0, []) else none
    else
     bif Nat.ble 97 pc then
      bif Nat.ble 98 pc then
       bif Nat.beq pc 98 then some (.invokevirtual 245, 3, [111, 2, 3, 3, 11], .inl 0, []) else none
      else
       bif Nat.beq pc 97 then some (.lload_n 2, 1, [], .inl 0, []) else none
     else
      bif Nat.ble 96 pc then
       bif Nat.beq pc 96 then some (.aload_n 0, 1, [], .inl 0, []) else none
      else
       bif Nat.beq pc 95 then some (.ireturn, 1, [1], .inl 0, []) else none
  else
   bif Nat.ble 78 pc then
    bif Nat.ble 87 pc then
     bif Nat.ble 91 pc then
      bif Nat.ble 94 pc then
       bif Nat.beq pc 94 then some (.iconst 0, 1, [], .inl (0), []) else none
      else
       bif Nat.beq pc 91 then some (.goto 4, 3, [], .inl 0, []) else none
     else
      bif Nat.ble 90 pc then
       bif Nat.beq pc 90 then some (.iconst 1, 1, [], .inl (1), []) else none
      else
       bif Nat.beq pc 87 then some (.if_icmp .ne 7, 3, [], .inl 0, []) else none
    else
     bif Nat.ble 83 pc then
      bif Nat.ble 84 pc then
       bif Nat.beq pc 84 then some (.getfield 349, 3, [8, 514, 0], .inl 0, []) else none
      else
       bif Nat.beq pc 83 then some (.aload_n 1, 1, [], .inl 0, []) else none
     else
      bif Nat.ble 80 pc then
       bif Nat.beq pc 80 then some (.getfield 224, 3, [10, 640, 0], .inl 0, []) else none
      else
       bif Nat.beq pc 78 then some (.aload 4, 2, [], .inl 0, []) else none
   else
    bif Nat.ble 68 pc then
     bif Nat.ble 73 pc then
      bif Nat.ble 75 pc then
       bif Nat.beq pc 75 then some (.ifnull 19, 3, [], .inl 0, []) else none
      else
       bif Nat.beq pc 73 then some (.aload 4, 2, [], .inl 0, []) else none
     else
      bif Nat.ble 71 pc then
       bif Nat.beq pc 71 then some (.astore 4, 2, [], .inl 0, []) else none
      else
       bif Nat.beq pc 68 then some (.invokevirtual 212, 3, [110, 2, 3, 3, 11], .inl 0, []) else none
    else
     bif Nat.ble 66 pc then
      bif Nat.ble 67 pc then
       bif Nat.beq pc 67 then some (.lload_n 2, 1, [], .inl 0, []) else none
      else
       bif Nat.beq pc 66 then some (.aload_n 0, 1, [], .inl 0, []) else none
     else
      bif Nat.ble 63 pc then
       bif Nat.beq pc 63 then some (.if_icmp .ne 33, 3, [], .inl 0, []) else none
      else
       bif Nat.beq pc 61 then some (.bipush 10, 2, [], .inl (10), []) else none
 else
  bif Nat.ble 32 pc then
   bif Nat.ble 47 pc then
    bif Nat.ble 53 pc then
     bif Nat.ble 57 pc then
      bif Nat.ble 58 pc then
       bif Nat.beq pc 58 then some (.getfield 158, 3, [8, 513, 0], .inl 0, []) else none
      else
       bif Nat.beq pc 57 then some (.aload_n 1, 1, [], .inl 0, []) else none
     else
      bif Nat.ble 56 pc then
       bif Nat.beq pc 56 then some (.ireturn, 1, [1], .inl 0, []) else none
      else
       bif Nat.beq pc 53 then some (.invokevirtual 363, 3, [123, 3, 1, 5, 11], .inl 0, []) else none
    else
     bif Nat.ble 49 pc then
      bif Nat.ble 52 pc then
       bif Nat.beq pc 52 then some (.lload_n 2, 1, [], .inl 0, []) else none
      else
       bif Nat.beq pc 49 then some (.getfield 349, 3, [8, 514, 0], .inl 0, []) else none
     else
      bif Nat.ble 48 pc then
       bif Nat.beq pc 48 then some (.aload_n 1, 1, [], .inl 0, []) else none
      else
       bif Nat.beq pc 47 then some (.aload_n 0, 1, [], .inl 0, []) else none
   else
    bif Nat.ble 38 pc then
     bif Nat.ble 42 pc then
      bif Nat.ble 44 pc then
       bif Nat.beq pc 44 then some (.if_icmp .ne 13, 3, [], .inl 0, []) else none
      else
       bif Nat.beq pc 42 then some (.bipush 8, 2, [], .inl (8), []) else none
     else
      bif Nat.ble 39 pc then
       bif Nat.beq pc 39 then some (.getfield 158, 3, [8, 513, 0], .inl 0, []) else none
      else
       bif Nat.beq pc 38 then some (.aload_n 1, 1, [], .inl 0, []) else none
    else
     bif Nat.ble 36 pc then
      bif Nat.ble 37 pc then
       bif Nat.beq pc 37 then some (.ireturn, 1, [1], .inl 0, []) else none
      else
       bif Nat.beq pc 36 then some (.iconst 1, 1, [], .inl (1), []) else none
     else
      bif Nat.ble 33 pc then
       bif Nat.beq pc 33 then some (.ifCond .ne 5, 3, [], .inl 0, []) else none
      else
       bif Nat.beq pc 32 then some (.lcmp, 1, [], .inl 0, []) else none
  else
   bif Nat.ble 15 pc then
    bif Nat.ble 23 pc then
     bif Nat.ble 28 pc then
      bif Nat.ble 29 pc then
       bif Nat.beq pc 29 then some (.ldc2_w 347, 3, [], .inr (.inl (-1)), []) else none
      else
       bif Nat.beq pc 28 then some (.lload_n 2, 1, [], .inl 0, []) else none
     else
      bif Nat.ble 25 pc then
       bif Nat.beq pc 25 then some (.if_icmp .lt 11, 3, [], .inl 0, []) else none
      else
       bif Nat.beq pc 23 then some (.bipush 8, 2, [], .inl (8), []) else none
    else
     bif Nat.ble 19 pc then
      bif Nat.ble 20 pc then
       bif Nat.beq pc 20 then some (.getfield 158, 3, [8, 513, 0], .inl 0, []) else none
      else
       bif Nat.beq pc 19 then some (.aload_n 1, 1, [], .inl 0, []) else none
     else
      bif Nat.ble 18 pc then
       bif Nat.beq pc 18 then some (.ireturn, 1, [1], .inl 0, []) else none
      else
       bif Nat.beq pc 15 then some (.invokevirtual 359, 3, [124, 3, 1, 5, 11], .inl 0, []) else none
   else
    bif Nat.ble 9 pc then
     bif Nat.ble 11 pc then
      bif Nat.ble 14 pc then
       bif Nat.beq pc 14 then some (.lload_n 2, 1, [], .inl 0, []) else none
      else
       bif Nat.beq pc 11 then some (.getfield 349, 3, [8, 514, 0], .inl 0, []) else none
     else
      bif Nat.ble 10 pc then
       bif Nat.beq pc 10 then some (.aload_n 1, 1, [], .inl 0, []) else none
      else
       bif Nat.beq pc 9 then some (.aload_n 0, 1, [], .inl 0, []) else none
    else
     bif Nat.ble 4 pc then
      bif Nat.ble 6 pc then
       bif Nat.beq pc 6 then some (.if_icmp .ne 13, 3, [], .inl 0, []) else none
      else
       bif Nat.beq pc 4 then some (.bipush 9, 2, [], .inl (9), []) else none
     else
      bif Nat.ble 1 pc then
       bif Nat.beq pc 1 then some (.getfield 158, 3, [8, 513, 0], .inl 0, []) else none
      else
       bif Nat.beq pc 0 then some (.aload_n 1, 1, [], .inl 0, []) else none
def kX11_isOrdinal (pc : Nat) : Option Ent := bif Nat.ble 38 pc then none else
 bif Nat.ble 18 pc then
  bif Nat.ble 28 pc then
   bif Nat.ble 33 pc then
    bif Nat.ble 36 pc then
     bif Nat.ble 37 pc then
      bif Nat.beq pc 37 then some (.ireturn, 1, [1], .inl 0, []) else none
     else
      bif Nat.beq pc 36 then some (.iconst 0, 1, [], .inl (0), []) else none
    else
     bif Nat.beq pc 33 then some (.goto 4, 3, [], .inl 0, []) else none
   else
    bif Nat.ble 29 pc then
     bif Nat.ble 32 pc then
      bif Nat.beq pc 32 then some (.iconst 1, 1, [], .inl (1), []) else none
     else
      bif Nat.beq pc 29 then some (.ifCond .ge 7, 3, [], .inl 0, []) else none
    else
     bif Nat.beq pc 28 then some (.lcmp, 1, [], .inl 0, []) else none
  else
   bif Nat.ble 21 pc then
    bif Nat.ble 24 pc then
     bif Nat.ble 27 pc then
      bif Nat.beq pc 27 then some (.i2l, 1, [], .inl 0, []) else none
     else
      bif Nat.beq pc 24 then some (.invokevirtual 52, 3, [14, 1, 1, 1, 0], .inl 0, []) else none
    else
     bif Nat.beq pc 21 then some (.getfield 77, 3, [3, 192, 2], .inl 0, []) else none
   else
    bif Nat.ble 19 pc then
     bif Nat.beq pc 19 then some (.aload 4, 2, [], .inl 0, []) else none
    else
     bif Nat.beq pc 18 then some (.lload_n 2, 1, [], .inl 0, []) else none
 else
  bif Nat.ble 9 pc then
   bif Nat.ble 13 pc then
    bif Nat.ble 14 pc then
     bif Nat.ble 15 pc then
      bif Nat.beq pc 15 then some (.ifCond .lt 21, 3, [], .inl 0, []) else none
     else
      bif Nat.beq pc 14 then some (.lcmp, 1, [], .inl 0, []) else none
    else
     bif Nat.beq pc 13 then some (.lconst 0, 1, [], .inr (.inl (0)), []) else none
   else
    bif Nat.ble 12 pc then
     bif Nat.beq pc 12 then some (.lload_n 2, 1, [], .inl 0, []) else none
    else
     bif Nat.beq pc 9 then some (.ifnull 27, 3, [], .inl 0, []) else none
  else
   bif Nat.ble 2 pc then
    bif Nat.ble 5 pc then
     bif Nat.ble 7 pc then
      bif Nat.beq pc 7 then some (.aload 4, 2, [], .inl 0, []) else none
     else
      bif Nat.beq pc 5 then some (.astore 4, 2, [], .inl 0, []) else none
    else
     bif Nat.beq pc 2 then some (.invokevirtual 63, 3, [107, 2, 3, 2, 11], .inl 0, []) else none
   else
    bif Nat.ble 1 pc then
     bif Nat.beq pc 1 then some (.iload_n 1, 1, [], .inl 0, []) else none
    else
     bif Nat.beq pc 0 then some (.aload_n 0, 1, [], .inl 0, []) else none
def kX11_enumerationHolds (pc : Nat) : Option Ent := bif Nat.ble 33 pc then none else
 bif Nat.ble 18 pc then
  bif Nat.ble 24 pc then
   bif Nat.ble 28 pc then
    bif Nat.ble 31 pc then
     bif Nat.ble 32 pc then
      bif Nat.beq pc 32 then some (.ireturn, 1, [1], .inl 0, []) else none
     else
      bif Nat.beq pc 31 then some (.iconst 0, 1, [], .inl (0), []) else none
    else
     bif Nat.beq pc 28 then some (.goto 4, 3, [], .inl 0, []) else none
   else
    bif Nat.ble 27 pc then
     bif Nat.beq pc 27 then some (.iconst 1, 1, [], .inl (1), []) else none
    else
     bif Nat.beq pc 24 then some (.ifCond .ne 7, 3, [], .inl 0, []) else none
  else
   bif Nat.ble 22 pc then
    bif Nat.ble 23 pc then
     bif Nat.beq pc 23 then some (.lcmp, 1, [], .inl 0, []) else none
    else
     bif Nat.beq pc 22 then some (.lconst 0, 1, [], .inr (.inl (0)), []) else none
   else
    bif Nat.ble 21 pc then
     bif Nat.beq pc 21 then some (.lushr, 1, [], .inl 0, []) else none
    else
     bif Nat.beq pc 18 then some (.invokevirtual 52, 3, [14, 1, 1, 1, 0], .inl 0, []) else none
 else
  bif Nat.ble 7 pc then
   bif Nat.ble 12 pc then
    bif Nat.ble 13 pc then
     bif Nat.ble 15 pc then
      bif Nat.beq pc 15 then some (.getfield 77, 3, [3, 192, 2], .inl 0, []) else none
     else
      bif Nat.beq pc 13 then some (.aload 4, 2, [], .inl 0, []) else none
    else
     bif Nat.beq pc 12 then some (.lload_n 2, 1, [], .inl 0, []) else none
   else
    bif Nat.ble 9 pc then
     bif Nat.beq pc 9 then some (.ifnull 22, 3, [], .inl 0, []) else none
    else
     bif Nat.beq pc 7 then some (.aload 4, 2, [], .inl 0, []) else none
  else
   bif Nat.ble 2 pc then
    bif Nat.ble 5 pc then
     bif Nat.beq pc 5 then some (.astore 4, 2, [], .inl 0, []) else none
    else
     bif Nat.beq pc 2 then some (.invokevirtual 63, 3, [107, 2, 3, 2, 11], .inl 0, []) else none
   else
    bif Nat.ble 1 pc then
     bif Nat.beq pc 1 then some (.iload_n 1, 1, [], .inl 0, []) else none
    else
     bif Nat.beq pc 0 then some (.aload_n 0, 1, [], .inl 0, []) else none
def kX11_isOfFamily (pc : Nat) : Option Ent := bif Nat.ble 28 pc then none else
 bif Nat.ble 12 pc then
  bif Nat.ble 22 pc then
   bif Nat.ble 26 pc then
    bif Nat.ble 27 pc then
     bif Nat.beq pc 27 then some (.ireturn, 1, [1], .inl 0, []) else none
    else
     bif Nat.beq pc 26 then some (.iconst 0, 1, [], .inl (0), []) else none
   else
    bif Nat.ble 23 pc then
     bif Nat.beq pc 23 then some (.goto 4, 3, [], .inl 0, []) else none
    else
     bif Nat.beq pc 22 then some (.iconst 1, 1, [], .inl (1), []) else none
  else
   bif Nat.ble 18 pc then
    bif Nat.ble 19 pc then
     bif Nat.beq pc 19 then some (.if_icmp .eq 7, 3, [], .inl 0, []) else none
    else
     bif Nat.beq pc 18 then some (.iconst (-1), 1, [], .inl (-1), []) else none
   else
    bif Nat.ble 15 pc then
     bif Nat.beq pc 15 then some (.invokevirtual 261, 3, [51, 2, 1, 3, 4], .inl 0, []) else none
    else
     bif Nat.beq pc 12 then some (.getfield 253, 3, [7, 448, 0], .inl 0, []) else none
 else
  bif Nat.ble 6 pc then
   bif Nat.ble 10 pc then
    bif Nat.ble 11 pc then
     bif Nat.beq pc 11 then some (.aload_n 1, 1, [], .inl 0, []) else none
    else
     bif Nat.beq pc 10 then some (.aload_n 3, 1, [], .inl 0, []) else none
   else
    bif Nat.ble 7 pc then
     bif Nat.beq pc 7 then some (.ifnull 19, 3, [], .inl 0, []) else none
    else
     bif Nat.beq pc 6 then some (.aload_n 3, 1, [], .inl 0, []) else none
  else
   bif Nat.ble 2 pc then
    bif Nat.ble 5 pc then
     bif Nat.beq pc 5 then some (.astore_n 3, 1, [], .inl 0, []) else none
    else
     bif Nat.beq pc 2 then some (.invokevirtual 104, 3, [109, 2, 3, 2, 11], .inl 0, []) else none
   else
    bif Nat.ble 1 pc then
     bif Nat.beq pc 1 then some (.iload_n 2, 1, [], .inl 0, []) else none
    else
     bif Nat.beq pc 0 then some (.aload_n 0, 1, [], .inl 0, []) else none
def kX11_construct (pc : Nat) : Option Ent := bif Nat.ble 186 pc then none else
 bif Nat.ble 88 pc then
  bif Nat.ble 141 pc then
   bif Nat.ble 163 pc then
    bif Nat.ble 176 pc then
     bif Nat.ble 181 pc then
      bif Nat.ble 182 pc then
       bif Nat.ble 185 pc then
        bif Nat.beq pc 185 then some (.ireturn, 1, [], .inl 0, []) else none
       else
        bif Nat.beq pc 182 then some (.invokevirtual 389, 3, [132, 3, 1, 4, 11], .inl 0, []) else none
      else
       bif Nat.beq pc 181 then some (.aload_n 2, 1, [], .inl 0, []) else none
     else
      bif Nat.ble 179 pc then
       bif Nat.ble 180 pc then
        bif Nat.beq pc 180 then some (.iload_n 1, 1, [], .inl 0, []) else none
       else
        bif Nat.beq pc 179 then some (.aload_n 0, 1, [], .inl 0, []) else none
      else
       bif Nat.beq pc 176 then some (.goto (-90), 3, [], .inl 0, []) else none
    else
     bif Nat.ble 169 pc then
      bif Nat.ble 172 pc then
       bif Nat.ble 173 pc then
        bif Nat.beq pc 173 then some (.iinc 5 1, 3, [], .inl (1), []) else none
       else
        bif Nat.beq pc 172 then some (.ireturn, 1, [], .inl 0, []) else none
      else
       bif Nat.beq pc 169 then some (.invokevirtual 378, 3, [127, 6, 1, 6, 11], .inl 0, []) else none
     else
      bif Nat.ble 166 pc then
       bif Nat.ble 168 pc then
        bif Nat.beq pc 168 then some (.iload_n 3, 1, [], .inl 0, []) else none
       else
        bif Nat.beq pc 166 then some (.iload 5, 2, [], .inl 0, []) else none
      else
       bif Nat.beq pc 163 then some (.getfield 382, 3, [1, 64, 0], .inl 0, []) else none
   else
    bif Nat.ble 152 pc then
     bif Nat.ble 158 pc then
      bif Nat.ble 160 pc then
       bif Nat.ble 161 pc then
        bif Nat.beq pc 161 then some (.aload 6, 2, [], .inl 0, []) else none
       else
        bif Nat.beq pc 160 then some (.iload_n 1, 1, [], .inl 0, []) else none
      else
       bif Nat.beq pc 158 then some (.iload 8, 2, [], .inl 0, []) else none
     else
      bif Nat.ble 154 pc then
       bif Nat.ble 157 pc then
        bif Nat.beq pc 157 then some (.aload_n 0, 1, [], .inl 0, []) else none
       else
        bif Nat.beq pc 154 then some (.ifCond .eq 19, 3, [], .inl 0, []) else none
      else
       bif Nat.beq pc 152 then some (.iload 8, 2, [], .inl 0, []) else none
    else
     bif Nat.ble 146 pc then
      bif Nat.ble 147 pc then
       bif Nat.ble 150 pc then
        bif Nat.beq pc 150 then some (.istore 8, 2, [], .inl 0, []) else none
       else
        bif Nat.beq pc 147 then some (.invokevirtual 385, 3, [128, 4, 1, 5, 11], .inl 0, []) else none
      else
       bif Nat.beq pc 146 then some (.laload, 1, [], .inl 0, []) else none
     else
      bif Nat.ble 143 pc then
       bif Nat.beq pc 143 then some (.getfield 382, 3, [1, 64, 0], .inl 0, []) else none
      else
       bif Nat.beq pc 141 then some (.aload 6, 2, [], .inl 0, []) else none
  else
   bif Nat.ble 116 pc then
    bif Nat.ble 131 pc then
     bif Nat.ble 136 pc then
      bif Nat.ble 138 pc then
       bif Nat.ble 140 pc then
        bif Nat.beq pc 140 then some (.aload_n 2, 1, [], .inl 0, []) else none
       else
        bif Nat.beq pc 138 then some (.aload 7, 2, [], .inl 0, []) else none
      else
       bif Nat.beq pc 136 then some (.aload 6, 2, [], .inl 0, []) else none
     else
      bif Nat.ble 132 pc then
       bif Nat.ble 135 pc then
        bif Nat.beq pc 135 then some (.aload_n 0, 1, [], .inl 0, []) else none
       else
        bif Nat.beq pc 132 then some (.goto 18, 3, [], .inl 0, []) else none
      else
       bif Nat.beq pc 131 then some (.iconst 0, 1, [], .inl (0), []) else none
    else
     bif Nat.ble 124 pc then
      bif Nat.ble 126 pc then
       bif Nat.ble 128 pc then
        bif Nat.beq pc 128 then some (.ifnonnull 7, 3, [], .inl 0, []) else none
       else
        bif Nat.beq pc 126 then some (.aload 7, 2, [], .inl 0, []) else none
      else
       bif Nat.beq pc 124 then some (.astore 7, 2, [], .inl 0, []) else none
     else
      bif Nat.ble 118 pc then
       bif Nat.ble 121 pc then
        bif Nat.beq pc 121 then some (.invokevirtual 143, 3, [65, 2, 3, 2, 9], .inl 0, []) else none
       else
        bif Nat.beq pc 118 then some (.getfield 382, 3, [1, 64, 0], .inl 0, []) else none
      else
       bif Nat.beq pc 116 then some (.aload 6, 2, [], .inl 0, []) else none
   else
    bif Nat.ble 101 pc then
     bif Nat.ble 109 pc then
      bif Nat.ble 112 pc then
       bif Nat.ble 114 pc then
        bif Nat.beq pc 114 then some (.aload 4, 2, [], .inl 0, []) else none
       else
        bif Nat.beq pc 112 then some (.astore 6, 2, [], .inl 0, []) else none
      else
       bif Nat.beq pc 109 then some (.checkcast 167, 3, [1], .inl 0, []) else none
     else
      bif Nat.ble 104 pc then
       bif Nat.ble 106 pc then
        bif Nat.beq pc 106 then some (.invokevirtual 190, 3, [16, 2, 3, 2, 0], .inl 0, []) else none
       else
        bif Nat.beq pc 104 then some (.iload 5, 2, [], .inl 0, []) else none
      else
       bif Nat.beq pc 101 then some (.getfield 164, 3, [9, 577, 2], .inl 0, []) else none
    else
     bif Nat.ble 93 pc then
      bif Nat.ble 96 pc then
       bif Nat.ble 99 pc then
        bif Nat.beq pc 99 then some (.aload 4, 2, [], .inl 0, []) else none
       else
        bif Nat.beq pc 96 then some (.if_icmp .ge 83, 3, [], .inl 0, []) else none
      else
       bif Nat.beq pc 93 then some (.invokevirtual 52, 3, [14, 1, 1, 1, 0], .inl 0, []) else none
     else
      bif Nat.ble 90 pc then
       bif Nat.beq pc 90 then some (.getfield 164, 3, [9, 577, 2], .inl 0, []) else none
      else
       bif Nat.beq pc 88 then some (.aload 4, 2, [], .inl 0, []) else none
 else
  bif Nat.ble 43 pc then
   bif Nat.ble 66 pc then
    bif Nat.ble 76 pc then
     bif Nat.ble 83 pc then
      bif Nat.ble 84 pc then
       bif Nat.ble 86 pc then
        bif Nat.beq pc 86 then some (.iload 5, 2, [], .inl 0, [6, 7, 8]) else none
       else
        bif Nat.beq pc 84 then some (.istore 5, 2, [], .inl 0, []) else none
      else
       bif Nat.beq pc 83 then some (.iconst 0, 1, [], .inl (0), []) else none
     else
      bif Nat.ble 77 pc then
       bif Nat.ble 80 pc then
        bif Nat.beq pc 80 then some (.goto (-56), 3, [], .inl 0, []) else none
       else
        bif Nat.beq pc 77 then some (.iinc 5 1, 3, [], .inl (1), []) else none
      else
       bif Nat.beq pc 76 then some (.ireturn, 1, [], .inl 0, []) else none
    else
     bif Nat.ble 71 pc then
      bif Nat.ble 72 pc then
       bif Nat.ble 73 pc then
        bif Nat.beq pc 73 then some (.invokevirtual 378, 3, [127, 6, 1, 6, 11], .inl 0, []) else none
       else
        bif Nat.beq pc 72 then some (.iload_n 3, 1, [], .inl 0, []) else none
      else
       bif Nat.beq pc 71 then some (.iconst (-1), 1, [], .inl (-1), []) else none
     else
      bif Nat.ble 68 pc then
       bif Nat.ble 69 pc then
        bif Nat.beq pc 69 then some (.iload 5, 2, [], .inl 0, []) else none
       else
        bif Nat.beq pc 68 then some (.iload_n 1, 1, [], .inl 0, []) else none
      else
       bif Nat.beq pc 66 then some (.iload 6, 2, [], .inl 0, []) else none
   else
    bif Nat.ble 54 pc then
     bif Nat.ble 60 pc then
      bif Nat.ble 62 pc then
       bif Nat.ble 65 pc then
        bif Nat.beq pc 65 then some (.aload_n 0, 1, [], .inl 0, []) else none
       else
        bif Nat.beq pc 62 then some (.ifCond .eq 15, 3, [], .inl 0, []) else none
      else
       bif Nat.beq pc 60 then some (.iload 6, 2, [], .inl 0, []) else none
     else
      bif Nat.ble 55 pc then
       bif Nat.ble 58 pc then
        bif Nat.beq pc 58 then some (.istore 6, 2, [], .inl 0, []) else none
       else
        bif Nat.beq pc 55 then some (.invokevirtual 374, 3, [119, 3, 1, 5, 11], .inl 0, []) else none
      else
       bif Nat.beq pc 54 then some (.laload, 1, [], .inl 0, []) else none
    else
     bif Nat.ble 48 pc then
      bif Nat.ble 51 pc then
       bif Nat.ble 52 pc then
        bif Nat.beq pc 52 then some (.iload 5, 2, [], .inl 0, []) else none
       else
        bif Nat.beq pc 51 then some (.aload_n 2, 1, [], .inl 0, []) else none
      else
       bif Nat.beq pc 48 then some (.checkcast 138, 3, [8], .inl 0, []) else none
     else
      bif Nat.ble 45 pc then
       bif Nat.beq pc 45 then some (.invokevirtual 190, 3, [16, 2, 3, 2, 0], .inl 0, []) else none
      else
       bif Nat.beq pc 43 then some (.iload 5, 2, [], .inl 0, []) else none
  else
   bif Nat.ble 18 pc then
    bif Nat.ble 28 pc then
     bif Nat.ble 37 pc then
      bif Nat.ble 38 pc then
       bif Nat.ble 40 pc then
        bif Nat.beq pc 40 then some (.getfield 135, 3, [9, 576, 2], .inl 0, []) else none
       else
        bif Nat.beq pc 38 then some (.aload 4, 2, [], .inl 0, []) else none
      else
       bif Nat.beq pc 37 then some (.aload_n 0, 1, [], .inl 0, []) else none
     else
      bif Nat.ble 31 pc then
       bif Nat.ble 34 pc then
        bif Nat.beq pc 34 then some (.if_icmp .ge 49, 3, [], .inl 0, []) else none
       else
        bif Nat.beq pc 31 then some (.invokevirtual 52, 3, [14, 1, 1, 1, 0], .inl 0, []) else none
      else
       bif Nat.beq pc 28 then some (.getfield 135, 3, [9, 576, 2], .inl 0, []) else none
    else
     bif Nat.ble 22 pc then
      bif Nat.ble 24 pc then
       bif Nat.ble 26 pc then
        bif Nat.beq pc 26 then some (.aload 4, 2, [], .inl 0, []) else none
       else
        bif Nat.beq pc 24 then some (.iload 5, 2, [], .inl 0, [6, 7, 8]) else none
      else
       bif Nat.beq pc 22 then some (.istore 5, 2, [], .inl 0, []) else none
     else
      bif Nat.ble 21 pc then
       bif Nat.beq pc 21 then some (.iconst 0, 1, [], .inl (0), []) else none
      else
       bif Nat.beq pc 18 then some (.invokevirtual 370, 3, [116, 3, 0, 3, 11], .inl 0, []) else none
   else
    bif Nat.ble 9 pc then
     bif Nat.ble 14 pc then
      bif Nat.ble 15 pc then
       bif Nat.ble 16 pc then
        bif Nat.beq pc 16 then some (.aload 4, 2, [], .inl 0, []) else none
       else
        bif Nat.beq pc 15 then some (.iload_n 1, 1, [], .inl 0, []) else none
      else
       bif Nat.beq pc 14 then some (.aload_n 0, 1, [], .inl 0, []) else none
     else
      bif Nat.ble 12 pc then
       bif Nat.ble 13 pc then
        bif Nat.beq pc 13 then some (.ireturn, 1, [], .inl 0, []) else none
       else
        bif Nat.beq pc 12 then some (.iconst (-1), 1, [], .inl (-1), []) else none
      else
       bif Nat.beq pc 9 then some (.ifnonnull 5, 3, [], .inl 0, []) else none
    else
     bif Nat.ble 2 pc then
      bif Nat.ble 5 pc then
       bif Nat.ble 7 pc then
        bif Nat.beq pc 7 then some (.aload 4, 2, [], .inl 0, []) else none
       else
        bif Nat.beq pc 5 then some (.astore 4, 2, [], .inl 0, []) else none
      else
       bif Nat.beq pc 2 then some (.invokevirtual 124, 3, [108, 2, 3, 2, 11], .inl 0, []) else none
     else
      bif Nat.ble 1 pc then
       bif Nat.beq pc 1 then some (.iload_n 1, 1, [], .inl 0, []) else none
      else
       bif Nat.beq pc 0 then some (.aload_n 0, 1, [], .inl 0, []) else none
def kX11_failed (pc : Nat) : Option Ent := bif Nat.ble 42 pc then none else
 bif Nat.ble 20 pc then
  bif Nat.ble 30 pc then
   bif Nat.ble 36 pc then
    bif Nat.ble 38 pc then
     bif Nat.ble 41 pc then
      bif Nat.beq pc 41 then some (.ireturn, 1, [], .inl 0, []) else none
     else
      bif Nat.beq pc 38 then some (.invokestatic 204, 3, [113, 1, 1, 1, 100], .inl 0, []) else none
    else
     bif Nat.ble 37 pc then
      bif Nat.beq pc 37 then some (.iload_n 1, 1, [], .inl 0, []) else none
     else
      bif Nat.beq pc 36 then some (.iastore, 1, [], .inl 0, []) else none
   else
    bif Nat.ble 33 pc then
     bif Nat.ble 34 pc then
      bif Nat.beq pc 34 then some (.iload 5, 2, [], .inl 0, []) else none
     else
      bif Nat.beq pc 33 then some (.iconst 4, 1, [], .inl (4), []) else none
    else
     bif Nat.beq pc 30 then some (.getfield 39, 3, [11, 718, 2], .inl 0, []) else none
  else
   bif Nat.ble 25 pc then
    bif Nat.ble 28 pc then
     bif Nat.ble 29 pc then
      bif Nat.beq pc 29 then some (.aload_n 0, 1, [], .inl 0, []) else none
     else
      bif Nat.beq pc 28 then some (.iastore, 1, [], .inl 0, []) else none
    else
     bif Nat.ble 26 pc then
      bif Nat.beq pc 26 then some (.iload 4, 2, [], .inl 0, []) else none
     else
      bif Nat.beq pc 25 then some (.iconst 3, 1, [], .inl (3), []) else none
   else
    bif Nat.ble 21 pc then
     bif Nat.ble 22 pc then
      bif Nat.beq pc 22 then some (.getfield 39, 3, [11, 718, 2], .inl 0, []) else none
     else
      bif Nat.beq pc 21 then some (.aload_n 0, 1, [], .inl 0, []) else none
    else
     bif Nat.beq pc 20 then some (.iastore, 1, [], .inl 0, []) else none
 else
  bif Nat.ble 11 pc then
   bif Nat.ble 14 pc then
    bif Nat.ble 18 pc then
     bif Nat.ble 19 pc then
      bif Nat.beq pc 19 then some (.iload_n 3, 1, [], .inl 0, []) else none
     else
      bif Nat.beq pc 18 then some (.iconst 2, 1, [], .inl (2), []) else none
    else
     bif Nat.ble 15 pc then
      bif Nat.beq pc 15 then some (.getfield 39, 3, [11, 718, 2], .inl 0, []) else none
     else
      bif Nat.beq pc 14 then some (.aload_n 0, 1, [], .inl 0, []) else none
   else
    bif Nat.ble 12 pc then
     bif Nat.ble 13 pc then
      bif Nat.beq pc 13 then some (.iastore, 1, [], .inl 0, []) else none
     else
      bif Nat.beq pc 12 then some (.iload_n 2, 1, [], .inl 0, []) else none
    else
     bif Nat.beq pc 11 then some (.iconst 1, 1, [], .inl (1), []) else none
  else
   bif Nat.ble 5 pc then
    bif Nat.ble 7 pc then
     bif Nat.ble 8 pc then
      bif Nat.beq pc 8 then some (.getfield 39, 3, [11, 718, 2], .inl 0, []) else none
     else
      bif Nat.beq pc 7 then some (.aload_n 0, 1, [], .inl 0, []) else none
    else
     bif Nat.ble 6 pc then
      bif Nat.beq pc 6 then some (.iastore, 1, [], .inl 0, []) else none
     else
      bif Nat.beq pc 5 then some (.iload_n 1, 1, [], .inl 0, []) else none
   else
    bif Nat.ble 1 pc then
     bif Nat.ble 4 pc then
      bif Nat.beq pc 4 then some (.iconst 0, 1, [], .inl (0), []) else none
     else
      bif Nat.beq pc 1 then some (.getfield 39, 3, [11, 718, 2], .inl 0, []) else none
    else
     bif Nat.beq pc 0 then some (.aload_n 0, 1, [], .inl 0, []) else none
def kX11_thrownBy (pc : Nat) : Option Ent := bif Nat.ble 153 pc then none else
 bif Nat.ble 99 pc then
  bif Nat.ble 127 pc then
   bif Nat.ble 141 pc then
    bif Nat.ble 147 pc then
     bif Nat.ble 151 pc then
      bif Nat.ble 152 pc then
       bif Nat.beq pc 152 then some (.ireturn, 1, [], .inl 0, []) else none
      else
       bif Nat.beq pc 151 then some (.iconst 0, 1, [], .inl (0), []) else none
     else
      bif Nat.ble 150 pc then
       bif Nat.beq pc 150 then some (.ireturn, 1, [], .inl 0, []) else none
      else
       bif Nat.beq pc 147 then some (.invokevirtual 416, 3, [131, 3, 1, 6, 11], .inl 0, []) else none
    else
     bif Nat.ble 143 pc then
      bif Nat.ble 146 pc then
       bif Nat.beq pc 146 then some (.lload_n 3, 1, [], .inl 0, []) else none
      else
       bif Nat.beq pc 143 then some (.getfield 349, 3, [8, 514, 0], .inl 0, []) else none
     else
      bif Nat.ble 142 pc then
       bif Nat.beq pc 142 then some (.aload_n 2, 1, [], .inl 0, []) else none
      else
       bif Nat.beq pc 141 then some (.aload_n 0, 1, [], .inl 0, []) else none
   else
    bif Nat.ble 133 pc then
     bif Nat.ble 137 pc then
      bif Nat.ble 140 pc then
       bif Nat.beq pc 140 then some (.ireturn, 1, [], .inl 0, []) else none
      else
       bif Nat.beq pc 137 then some (.invokestatic 412, 3, [130, 2, 1, 3, 100], .inl 0, []) else none
     else
      bif Nat.ble 134 pc then
       bif Nat.beq pc 134 then some (.getfield 396, 3, [1, 66, 1], .inl 0, []) else none
      else
       bif Nat.beq pc 133 then some (.aload_n 1, 1, [], .inl 0, []) else none
    else
     bif Nat.ble 129 pc then
      bif Nat.ble 130 pc then
       bif Nat.beq pc 130 then some (.invokevirtual 245, 3, [111, 2, 3, 3, 11], .inl 0, []) else none
      else
       bif Nat.beq pc 129 then some (.lload_n 3, 1, [], .inl 0, []) else none
     else
      bif Nat.ble 128 pc then
       bif Nat.beq pc 128 then some (.aload_n 0, 1, [], .inl 0, []) else none
      else
       bif Nat.beq pc 127 then some (.ireturn, 1, [], .inl 0, []) else none
  else
   bif Nat.ble 113 pc then
    bif Nat.ble 117 pc then
     bif Nat.ble 121 pc then
      bif Nat.ble 124 pc then
       bif Nat.beq pc 124 then some (.invokestatic 408, 3, [129, 2, 1, 3, 100], .inl 0, []) else none
      else
       bif Nat.beq pc 121 then some (.getfield 396, 3, [1, 66, 1], .inl 0, []) else none
     else
      bif Nat.ble 120 pc then
       bif Nat.beq pc 120 then some (.aload_n 1, 1, [], .inl 0, []) else none
      else
       bif Nat.beq pc 117 then some (.invokevirtual 212, 3, [110, 2, 3, 3, 11], .inl 0, []) else none
    else
     bif Nat.ble 115 pc then
      bif Nat.ble 116 pc then
       bif Nat.beq pc 116 then some (.lload_n 3, 1, [], .inl 0, []) else none
      else
       bif Nat.beq pc 115 then some (.aload_n 0, 1, [], .inl 0, []) else none
     else
      bif Nat.ble 114 pc then
       bif Nat.beq pc 114 then some (.ireturn, 1, [], .inl 0, []) else none
      else
       bif Nat.beq pc 113 then some (.iconst 0, 1, [], .inl (0), []) else none
   else
    bif Nat.ble 105 pc then
     bif Nat.ble 109 pc then
      bif Nat.ble 110 pc then
       bif Nat.beq pc 110 then some (.goto 4, 3, [], .inl 0, []) else none
      else
       bif Nat.beq pc 109 then some (.iconst 4, 1, [], .inl (4), []) else none
     else
      bif Nat.ble 106 pc then
       bif Nat.beq pc 106 then some (.ifCond .ge 7, 3, [], .inl 0, []) else none
      else
       bif Nat.beq pc 105 then some (.lcmp, 1, [], .inl 0, []) else none
    else
     bif Nat.ble 103 pc then
      bif Nat.ble 104 pc then
       bif Nat.beq pc 104 then some (.lconst 0, 1, [], .inr (.inl (0)), []) else none
      else
       bif Nat.beq pc 103 then some (.lrem, 1, [], .inl 0, []) else none
     else
      bif Nat.ble 100 pc then
       bif Nat.beq pc 100 then some (.ldc2_w 406, 3, [], .inr (.inl (8)), []) else none
      else
       bif Nat.beq pc 99 then some (.lload_n 3, 1, [], .inl 0, []) else none
 else
  bif Nat.ble 73 pc then
   bif Nat.ble 87 pc then
    bif Nat.ble 93 pc then
     bif Nat.ble 97 pc then
      bif Nat.ble 98 pc then
       bif Nat.beq pc 98 then some (.ireturn, 1, [], .inl 0, []) else none
      else
       bif Nat.beq pc 97 then some (.iconst 0, 1, [], .inl (0), []) else none
     else
      bif Nat.ble 94 pc then
       bif Nat.beq pc 94 then some (.goto 4, 3, [], .inl 0, []) else none
      else
       bif Nat.beq pc 93 then some (.iconst 3, 1, [], .inl (3), []) else none
    else
     bif Nat.ble 89 pc then
      bif Nat.ble 90 pc then
       bif Nat.beq pc 90 then some (.ifCond .ne 7, 3, [], .inl 0, []) else none
      else
       bif Nat.beq pc 89 then some (.lcmp, 1, [], .inl 0, []) else none
     else
      bif Nat.ble 88 pc then
       bif Nat.beq pc 88 then some (.lconst 0, 1, [], .inr (.inl (0)), []) else none
      else
       bif Nat.beq pc 87 then some (.lload_n 3, 1, [], .inl 0, []) else none
   else
    bif Nat.ble 81 pc then
     bif Nat.ble 85 pc then
      bif Nat.ble 86 pc then
       bif Nat.beq pc 86 then some (.ireturn, 1, [], .inl 0, []) else none
      else
       bif Nat.beq pc 85 then some (.iconst 0, 1, [], .inl (0), []) else none
     else
      bif Nat.ble 82 pc then
       bif Nat.beq pc 82 then some (.goto 4, 3, [], .inl 0, []) else none
      else
       bif Nat.beq pc 81 then some (.iconst 2, 1, [], .inl (2), []) else none
    else
     bif Nat.ble 77 pc then
      bif Nat.ble 78 pc then
       bif Nat.beq pc 78 then some (.ifCond .ne 7, 3, [], .inl 0, []) else none
      else
       bif Nat.beq pc 77 then some (.lcmp, 1, [], .inl 0, []) else none
     else
      bif Nat.ble 74 pc then
       bif Nat.beq pc 74 then some (.ldc2_w 347, 3, [], .inr (.inl (-1)), []) else none
      else
       bif Nat.beq pc 73 then some (.lload_n 3, 1, [], .inl 0, []) else none
  else
   bif Nat.ble 57 pc then
    bif Nat.ble 67 pc then
     bif Nat.ble 71 pc then
      bif Nat.ble 72 pc then
       bif Nat.beq pc 72 then some (.ireturn, 1, [], .inl 0, []) else none
      else
       bif Nat.beq pc 71 then some (.iconst 1, 1, [], .inl (1), []) else none
     else
      bif Nat.ble 68 pc then
       bif Nat.beq pc 68 then some (.goto 4, 3, [], .inl 0, []) else none
      else
       bif Nat.beq pc 67 then some (.iconst 0, 1, [], .inl (0), []) else none
    else
     bif Nat.ble 61 pc then
      bif Nat.ble 64 pc then
       bif Nat.beq pc 64 then some (.ifCond .eq 7, 3, [], .inl 0, []) else none
      else
       bif Nat.beq pc 61 then some (.invokestatic 402, 3, [34, 4, 1, 9, 100], .inl 0, []) else none
     else
      bif Nat.ble 58 pc then
       bif Nat.beq pc 58 then some (.getfield 399, 3, [1, 67, 1], .inl 0, []) else none
      else
       bif Nat.beq pc 57 then some (.aload_n 1, 1, [], .inl 0, []) else none
   else
    bif Nat.ble 49 pc then
     bif Nat.ble 53 pc then
      bif Nat.ble 54 pc then
       bif Nat.beq pc 54 then some (.getfield 396, 3, [1, 66, 1], .inl 0, []) else none
      else
       bif Nat.beq pc 53 then some (.aload_n 1, 1, [], .inl 0, []) else none
     else
      bif Nat.ble 52 pc then
       bif Nat.beq pc 52 then some (.lload_n 3, 1, [], .inl 0, []) else none
      else
       bif Nat.beq pc 49 then some (.getfield 158, 3, [8, 513, 0], .inl 0, []) else none
    else
     bif Nat.ble 4 pc then
      bif Nat.ble 48 pc then
       bif Nat.beq pc 48 then some (.aload_n 2, 1, [], .inl 0, []) else none
      else
       bif Nat.beq pc 4 then some (.tableswitch 147 0 6 #[44, 69, 83, 95, 111, 124, 137], 44, [], .inl 0, []) else none
     else
      bif Nat.ble 1 pc then
       bif Nat.beq pc 1 then some (.getfield 393, 3, [1, 65, 0], .inl 0, []) else none
      else
       bif Nat.beq pc 0 then some (.aload_n 1, 1, [], .inl 0, []) else none
def kX11_thrownByItem (pc : Nat) : Option Ent := bif Nat.ble 20 pc then none else
 bif Nat.ble 8 pc then
  bif Nat.ble 15 pc then
   bif Nat.ble 18 pc then
    bif Nat.ble 19 pc then
     bif Nat.beq pc 19 then some (.ireturn, 1, [], .inl 0, []) else none
    else
     bif Nat.beq pc 18 then some (.iconst 5, 1, [], .inl (5), []) else none
   else
    bif Nat.beq pc 15 then some (.goto 4, 3, [], .inl 0, []) else none
  else
   bif Nat.ble 11 pc then
    bif Nat.ble 14 pc then
     bif Nat.beq pc 14 then some (.iconst 0, 1, [], .inl (0), []) else none
    else
     bif Nat.beq pc 11 then some (.ifCond .eq 7, 3, [], .inl 0, []) else none
   else
    bif Nat.beq pc 8 then some (.invokevirtual 216, 3, [71, 2, 1, 3, 10], .inl 0, []) else none
 else
  bif Nat.ble 5 pc then
   bif Nat.ble 6 pc then
    bif Nat.ble 7 pc then
     bif Nat.beq pc 7 then some (.lload_n 1, 1, [], .inl 0, []) else none
    else
     bif Nat.beq pc 6 then some (.aload_n 0, 1, [], .inl 0, []) else none
   else
    bif Nat.beq pc 5 then some (.ireturn, 1, [], .inl 0, []) else none
  else
   bif Nat.ble 1 pc then
    bif Nat.ble 4 pc then
     bif Nat.beq pc 4 then some (.iconst 2, 1, [], .inl (2), []) else none
    else
     bif Nat.beq pc 1 then some (.ifnonnull 5, 3, [], .inl 0, []) else none
   else
    bif Nat.beq pc 0 then some (.aload_n 0, 1, [], .inl 0, []) else none
def kX11_thrownByCast (pc : Nat) : Option Ent := bif Nat.ble 21 pc then none else
 bif Nat.ble 10 pc then
  bif Nat.ble 15 pc then
   bif Nat.ble 18 pc then
    bif Nat.ble 20 pc then
     bif Nat.beq pc 20 then some (.ireturn, 1, [], .inl 0, []) else none
    else
     bif Nat.beq pc 18 then some (.bipush 6, 2, [], .inl (6), []) else none
   else
    bif Nat.beq pc 15 then some (.goto 5, 3, [], .inl 0, []) else none
  else
   bif Nat.ble 11 pc then
    bif Nat.ble 14 pc then
     bif Nat.beq pc 14 then some (.iconst 0, 1, [], .inl (0), []) else none
    else
     bif Nat.beq pc 11 then some (.ifCond .ne 7, 3, [], .inl 0, []) else none
   else
    bif Nat.beq pc 10 then some (.lcmp, 1, [], .inl 0, []) else none
 else
  bif Nat.ble 5 pc then
   bif Nat.ble 8 pc then
    bif Nat.ble 9 pc then
     bif Nat.beq pc 9 then some (.lload_n 1, 1, [], .inl 0, []) else none
    else
     bif Nat.beq pc 8 then some (.i2l, 1, [], .inl 0, []) else none
   else
    bif Nat.beq pc 5 then some (.getfield 253, 3, [7, 448, 0], .inl 0, []) else none
  else
   bif Nat.ble 1 pc then
    bif Nat.ble 4 pc then
     bif Nat.beq pc 4 then some (.aload_n 0, 1, [], .inl 0, []) else none
    else
     bif Nat.beq pc 1 then some (.ifnull 13, 3, [], .inl 0, []) else none
   else
    bif Nat.beq pc 0 then some (.aload_n 0, 1, [], .inl 0, []) else none
def kX11_thrownByLaying (pc : Nat) : Option Ent := bif Nat.ble 44 pc then none else
 bif Nat.ble 19 pc then
  bif Nat.ble 31 pc then
   bif Nat.ble 38 pc then
    bif Nat.ble 41 pc then
     bif Nat.ble 43 pc then
      bif Nat.beq pc 43 then some (.ireturn, 1, [], .inl 0, []) else none
     else
      bif Nat.beq pc 41 then some (.bipush 7, 2, [], .inl (7), []) else none
    else
     bif Nat.beq pc 38 then some (.goto 5, 3, [], .inl 0, []) else none
   else
    bif Nat.ble 34 pc then
     bif Nat.ble 37 pc then
      bif Nat.beq pc 37 then some (.iconst 0, 1, [], .inl (0), []) else none
     else
      bif Nat.beq pc 34 then some (.ifCond .eq 7, 3, [], .inl 0, []) else none
    else
     bif Nat.beq pc 31 then some (.getfield 420, 3, [2, 129, 0], .inl 0, []) else none
  else
   bif Nat.ble 24 pc then
    bif Nat.ble 26 pc then
     bif Nat.ble 29 pc then
      bif Nat.beq pc 29 then some (.aload 5, 2, [], .inl 0, []) else none
     else
      bif Nat.beq pc 26 then some (.ifnull 11, 3, [], .inl 0, []) else none
    else
     bif Nat.beq pc 24 then some (.aload 5, 2, [], .inl 0, []) else none
   else
    bif Nat.ble 22 pc then
     bif Nat.beq pc 22 then some (.astore 5, 2, [], .inl 0, []) else none
    else
     bif Nat.beq pc 19 then some (.invokevirtual 85, 3, [46, 2, 3, 3, 3], .inl 0, []) else none
 else
  bif Nat.ble 9 pc then
   bif Nat.ble 13 pc then
    bif Nat.ble 16 pc then
     bif Nat.ble 18 pc then
      bif Nat.beq pc 18 then some (.lload_n 2, 1, [], .inl 0, []) else none
     else
      bif Nat.beq pc 16 then some (.aload 4, 2, [], .inl 0, []) else none
    else
     bif Nat.beq pc 13 then some (.goto 9, 3, [], .inl 0, []) else none
   else
    bif Nat.ble 12 pc then
     bif Nat.beq pc 12 then some (.aconst_null, 1, [], .inl 0, []) else none
    else
     bif Nat.beq pc 9 then some (.ifnonnull 7, 3, [], .inl 0, []) else none
  else
   bif Nat.ble 2 pc then
    bif Nat.ble 5 pc then
     bif Nat.ble 7 pc then
      bif Nat.beq pc 7 then some (.aload 4, 2, [], .inl 0, []) else none
     else
      bif Nat.beq pc 5 then some (.astore 4, 2, [], .inl 0, []) else none
    else
     bif Nat.beq pc 2 then some (.invokevirtual 63, 3, [107, 2, 3, 2, 11], .inl 0, []) else none
   else
    bif Nat.ble 1 pc then
     bif Nat.beq pc 1 then some (.iload_n 1, 1, [], .inl 0, []) else none
    else
     bif Nat.beq pc 0 then some (.aload_n 0, 1, [], .inl 0, []) else none
def kX11_addObject (pc : Nat) : Option Ent := bif Nat.ble 78 pc then none else
 bif Nat.ble 44 pc then
  bif Nat.ble 60 pc then
   bif Nat.ble 68 pc then
    bif Nat.ble 73 pc then
     bif Nat.ble 74 pc then
      bif Nat.ble 77 pc then
       bif Nat.beq pc 77 then some (.ireturn, 1, [], .inl 0, []) else none
      else
       bif Nat.beq pc 74 then some (.putfield 48, 3, [11, 711, 0], .inl 0, []) else none
     else
      bif Nat.beq pc 73 then some (.iadd, 1, [], .inl 0, []) else none
    else
     bif Nat.ble 71 pc then
      bif Nat.ble 72 pc then
       bif Nat.beq pc 72 then some (.iconst 1, 1, [], .inl (1), []) else none
      else
       bif Nat.beq pc 71 then some (.dup_x1, 1, [], .inl 0, []) else none
     else
      bif Nat.beq pc 68 then some (.getfield 48, 3, [11, 711, 0], .inl 0, []) else none
   else
    bif Nat.ble 63 pc then
     bif Nat.ble 66 pc then
      bif Nat.ble 67 pc then
       bif Nat.beq pc 67 then some (.dup, 1, [], .inl 0, []) else none
      else
       bif Nat.beq pc 66 then some (.aload_n 0, 1, [], .inl 0, []) else none
     else
      bif Nat.beq pc 63 then some (.invokestatic 424, 3, [9001], .inl 0, []) else none
    else
     bif Nat.ble 61 pc then
      bif Nat.beq pc 61 then some (.bipush 6, 2, [], .inl (6), []) else none
     else
      bif Nat.beq pc 60 then some (.iconst 0, 1, [], .inl (0), []) else none
  else
   bif Nat.ble 51 pc then
    bif Nat.ble 55 pc then
     bif Nat.ble 56 pc then
      bif Nat.ble 57 pc then
       bif Nat.beq pc 57 then some (.getfield 258, 3, [7, 449, 2], .inl 0, []) else none
      else
       bif Nat.beq pc 56 then some (.aload_n 3, 1, [], .inl 0, []) else none
     else
      bif Nat.beq pc 55 then some (.iconst 0, 1, [], .inl (0), []) else none
    else
     bif Nat.ble 54 pc then
      bif Nat.beq pc 54 then some (.aload_n 2, 1, [], .inl 0, []) else none
     else
      bif Nat.beq pc 51 then some (.putfield 282, 3, [7, 451, 0], .inl 0, []) else none
   else
    bif Nat.ble 46 pc then
     bif Nat.ble 49 pc then
      bif Nat.ble 50 pc then
       bif Nat.beq pc 50 then some (.iconst (-1), 1, [], .inl (-1), []) else none
      else
       bif Nat.beq pc 49 then some (.aload_n 3, 1, [], .inl 0, []) else none
     else
      bif Nat.beq pc 46 then some (.putfield 253, 3, [7, 448, 0], .inl 0, []) else none
    else
     bif Nat.ble 45 pc then
      bif Nat.beq pc 45 then some (.iload_n 1, 1, [], .inl 0, []) else none
     else
      bif Nat.beq pc 44 then some (.aload_n 3, 1, [], .inl 0, []) else none
 else
  bif Nat.ble 22 pc then
   bif Nat.ble 33 pc then
    bif Nat.ble 37 pc then
     bif Nat.ble 40 pc then
      bif Nat.ble 43 pc then
       bif Nat.beq pc 43 then some (.astore_n 3, 1, [], .inl 0, []) else none
      else
       bif Nat.beq pc 40 then some (.checkcast 254, 3, [7], .inl 0, []) else none
     else
      bif Nat.beq pc 37 then some (.invokevirtual 190, 3, [16, 2, 3, 2, 0], .inl 0, []) else none
    else
     bif Nat.ble 34 pc then
      bif Nat.beq pc 34 then some (.getfield 48, 3, [11, 711, 0], .inl 0, []) else none
     else
      bif Nat.beq pc 33 then some (.aload_n 0, 1, [], .inl 0, []) else none
   else
    bif Nat.ble 28 pc then
     bif Nat.ble 29 pc then
      bif Nat.ble 30 pc then
       bif Nat.beq pc 30 then some (.getfield 25, 3, [11, 710, 2], .inl 0, []) else none
      else
       bif Nat.beq pc 29 then some (.aload_n 0, 1, [], .inl 0, []) else none
     else
      bif Nat.beq pc 28 then some (.pop, 1, [], .inl 0, []) else none
    else
     bif Nat.ble 25 pc then
      bif Nat.beq pc 25 then some (.invokevirtual 59, 3, [19, 2, 1, 2, 0], .inl 0, []) else none
     else
      bif Nat.beq pc 22 then some (.invokespecial 423, 3, [62, 1, 0, 1, 7], .inl 0, []) else none
  else
   bif Nat.ble 11 pc then
    bif Nat.ble 15 pc then
     bif Nat.ble 18 pc then
      bif Nat.ble 21 pc then
       bif Nat.beq pc 21 then some (.dup, 1, [], .inl 0, []) else none
      else
       bif Nat.beq pc 18 then some (.new 254, 3, [7, 5], .inl 0, []) else none
     else
      bif Nat.beq pc 15 then some (.getfield 25, 3, [11, 710, 2], .inl 0, []) else none
    else
     bif Nat.ble 14 pc then
      bif Nat.beq pc 14 then some (.aload_n 0, 1, [], .inl 0, []) else none
     else
      bif Nat.beq pc 11 then some (.if_icmp .ne 18, 3, [], .inl 0, []) else none
   else
    bif Nat.ble 4 pc then
     bif Nat.ble 5 pc then
      bif Nat.ble 8 pc then
       bif Nat.beq pc 8 then some (.invokevirtual 52, 3, [14, 1, 1, 1, 0], .inl 0, []) else none
      else
       bif Nat.beq pc 5 then some (.getfield 25, 3, [11, 710, 2], .inl 0, []) else none
     else
      bif Nat.beq pc 4 then some (.aload_n 0, 1, [], .inl 0, []) else none
    else
     bif Nat.ble 1 pc then
      bif Nat.beq pc 1 then some (.getfield 48, 3, [11, 711, 0], .inl 0, []) else none
     else
      bif Nat.beq pc 0 then some (.aload_n 0, 1, [], .inl 0, []) else none
def kX11_findTwins (pc : Nat) : Option Ent := bif Nat.ble 47 pc then none else
 bif Nat.ble 21 pc then
  bif Nat.ble 35 pc then
   bif Nat.ble 40 pc then
    bif Nat.ble 43 pc then
     bif Nat.ble 46 pc then
      bif Nat.beq pc 46 then some (.return_, 1, [], .inl 0, []) else none
     else
      bif Nat.beq pc 43 then some (.putfield 178, 3, [11, 713, 0], .inl 0, []) else none
    else
     bif Nat.beq pc 40 then some (.getfield 48, 3, [11, 711, 0], .inl 0, []) else none
   else
    bif Nat.ble 38 pc then
     bif Nat.ble 39 pc then
      bif Nat.beq pc 39 then some (.aload_n 0, 1, [], .inl 0, []) else none
     else
      bif Nat.beq pc 38 then some (.aload_n 0, 1, [], .inl 0, []) else none
    else
     bif Nat.beq pc 35 then some (.goto (-30), 3, [], .inl 0, []) else none
  else
   bif Nat.ble 26 pc then
    bif Nat.ble 29 pc then
     bif Nat.ble 32 pc then
      bif Nat.beq pc 32 then some (.iinc 1 1, 3, [], .inl (1), []) else none
     else
      bif Nat.beq pc 29 then some (.putfield 267, 3, [7, 450, 0], .inl 0, []) else none
    else
     bif Nat.beq pc 26 then some (.invokevirtual 430, 3, [134, 2, 1, 5, 11], .inl 0, []) else none
   else
    bif Nat.ble 24 pc then
     bif Nat.ble 25 pc then
      bif Nat.beq pc 25 then some (.iload_n 1, 1, [], .inl 0, []) else none
     else
      bif Nat.beq pc 24 then some (.aload_n 0, 1, [], .inl 0, []) else none
    else
     bif Nat.beq pc 21 then some (.checkcast 254, 3, [7], .inl 0, []) else none
 else
  bif Nat.ble 7 pc then
   bif Nat.ble 14 pc then
    bif Nat.ble 17 pc then
     bif Nat.ble 18 pc then
      bif Nat.beq pc 18 then some (.invokevirtual 190, 3, [16, 2, 3, 2, 0], .inl 0, []) else none
     else
      bif Nat.beq pc 17 then some (.iload_n 1, 1, [], .inl 0, []) else none
    else
     bif Nat.beq pc 14 then some (.getfield 25, 3, [11, 710, 2], .inl 0, []) else none
   else
    bif Nat.ble 10 pc then
     bif Nat.ble 13 pc then
      bif Nat.beq pc 13 then some (.aload_n 0, 1, [], .inl 0, []) else none
     else
      bif Nat.beq pc 10 then some (.if_icmp .ge 28, 3, [], .inl 0, []) else none
    else
     bif Nat.beq pc 7 then some (.getfield 48, 3, [11, 711, 0], .inl 0, []) else none
  else
   bif Nat.ble 4 pc then
    bif Nat.ble 5 pc then
     bif Nat.ble 6 pc then
      bif Nat.beq pc 6 then some (.aload_n 0, 1, [], .inl 0, []) else none
     else
      bif Nat.beq pc 5 then some (.iload_n 1, 1, [], .inl 0, []) else none
    else
     bif Nat.beq pc 4 then some (.istore_n 1, 1, [], .inl 0, []) else none
   else
    bif Nat.ble 1 pc then
     bif Nat.beq pc 1 then some (.getfield 178, 3, [11, 713, 0], .inl 0, []) else none
    else
     bif Nat.beq pc 0 then some (.aload_n 0, 1, [], .inl 0, []) else none
def kX11_firstAlike (pc : Nat) : Option Ent := bif Nat.ble 64 pc then none else
 bif Nat.ble 30 pc then
  bif Nat.ble 47 pc then
   bif Nat.ble 55 pc then
    bif Nat.ble 59 pc then
     bif Nat.ble 62 pc then
      bif Nat.ble 63 pc then
       bif Nat.beq pc 63 then some (.ireturn, 1, [], .inl 0, []) else none
      else
       bif Nat.beq pc 62 then some (.iload_n 1, 1, [], .inl 0, []) else none
     else
      bif Nat.beq pc 59 then some (.goto (-45), 3, [], .inl 0, []) else none
    else
     bif Nat.ble 56 pc then
      bif Nat.beq pc 56 then some (.iinc 3 1, 3, [], .inl (1), []) else none
     else
      bif Nat.beq pc 55 then some (.ireturn, 1, [], .inl 0, []) else none
   else
    bif Nat.ble 51 pc then
     bif Nat.ble 54 pc then
      bif Nat.beq pc 54 then some (.iload_n 3, 1, [], .inl 0, []) else none
     else
      bif Nat.beq pc 51 then some (.ifCond .eq 5, 3, [], .inl 0, []) else none
    else
     bif Nat.ble 48 pc then
      bif Nat.beq pc 48 then some (.invokevirtual 433, 3, [135, 3, 1, 10, 11], .inl 0, []) else none
     else
      bif Nat.beq pc 47 then some (.aload_n 2, 1, [], .inl 0, []) else none
  else
   bif Nat.ble 38 pc then
    bif Nat.ble 44 pc then
     bif Nat.ble 45 pc then
      bif Nat.beq pc 45 then some (.aload 4, 2, [], .inl 0, []) else none
     else
      bif Nat.beq pc 44 then some (.aload_n 0, 1, [], .inl 0, []) else none
    else
     bif Nat.ble 41 pc then
      bif Nat.beq pc 41 then some (.if_icmp .ne 15, 3, [], .inl 0, []) else none
     else
      bif Nat.beq pc 38 then some (.getfield 253, 3, [7, 448, 0], .inl 0, []) else none
   else
    bif Nat.ble 34 pc then
     bif Nat.ble 37 pc then
      bif Nat.beq pc 37 then some (.aload_n 2, 1, [], .inl 0, []) else none
     else
      bif Nat.beq pc 34 then some (.getfield 253, 3, [7, 448, 0], .inl 0, []) else none
    else
     bif Nat.ble 32 pc then
      bif Nat.beq pc 32 then some (.aload 4, 2, [], .inl 0, []) else none
     else
      bif Nat.beq pc 30 then some (.astore 4, 2, [], .inl 0, []) else none
 else
  bif Nat.ble 14 pc then
   bif Nat.ble 20 pc then
    bif Nat.ble 24 pc then
     bif Nat.ble 27 pc then
      bif Nat.beq pc 27 then some (.checkcast 254, 3, [7], .inl 0, []) else none
     else
      bif Nat.beq pc 24 then some (.invokevirtual 190, 3, [16, 2, 3, 2, 0], .inl 0, []) else none
    else
     bif Nat.ble 23 pc then
      bif Nat.beq pc 23 then some (.iload_n 3, 1, [], .inl 0, []) else none
     else
      bif Nat.beq pc 20 then some (.getfield 25, 3, [11, 710, 2], .inl 0, []) else none
   else
    bif Nat.ble 16 pc then
     bif Nat.ble 19 pc then
      bif Nat.beq pc 19 then some (.aload_n 0, 1, [], .inl 0, []) else none
     else
      bif Nat.beq pc 16 then some (.if_icmp .ge 46, 3, [], .inl 0, []) else none
    else
     bif Nat.ble 15 pc then
      bif Nat.beq pc 15 then some (.iload_n 1, 1, [], .inl 0, []) else none
     else
      bif Nat.beq pc 14 then some (.iload_n 3, 1, [], .inl 0, [4]) else none
  else
   bif Nat.ble 8 pc then
    bif Nat.ble 12 pc then
     bif Nat.ble 13 pc then
      bif Nat.beq pc 13 then some (.istore_n 3, 1, [], .inl 0, []) else none
     else
      bif Nat.beq pc 12 then some (.iconst 0, 1, [], .inl (0), []) else none
    else
     bif Nat.ble 11 pc then
      bif Nat.beq pc 11 then some (.astore_n 2, 1, [], .inl 0, []) else none
     else
      bif Nat.beq pc 8 then some (.checkcast 254, 3, [7], .inl 0, []) else none
   else
    bif Nat.ble 4 pc then
     bif Nat.ble 5 pc then
      bif Nat.beq pc 5 then some (.invokevirtual 190, 3, [16, 2, 3, 2, 0], .inl 0, []) else none
     else
      bif Nat.beq pc 4 then some (.iload_n 1, 1, [], .inl 0, []) else none
    else
     bif Nat.ble 1 pc then
      bif Nat.beq pc 1 then some (.getfield 25, 3, [11, 710, 2], .inl 0, []) else none
     else
      bif Nat.beq pc 0 then some (.aload_n 0, 1, [], .inl 0, []) else none
def kX11_areAlike (pc : Nat) : Option Ent := bif Nat.ble 131 pc then none else
 bif Nat.ble 67 pc then
  bif Nat.ble 98 pc then
   bif Nat.ble 115 pc then
    bif Nat.ble 122 pc then
     bif Nat.ble 126 pc then
      bif Nat.ble 129 pc then
       bif Nat.ble 130 pc then
        bif Nat.beq pc 130 then some (.ireturn, 1, [1], .inl 0, []) else none
       else
        bif Nat.beq pc 129 then some (.iconst 1, 1, [], .inl (1), []) else none
      else
       bif Nat.beq pc 126 then some (.goto (-108), 3, [], .inl 0, []) else none
     else
      bif Nat.ble 123 pc then
       bif Nat.beq pc 123 then some (.iinc 4 1, 3, [], .inl (1), []) else none
      else
       bif Nat.beq pc 122 then some (.ireturn, 1, [1], .inl 0, []) else none
    else
     bif Nat.ble 118 pc then
      bif Nat.ble 121 pc then
       bif Nat.beq pc 121 then some (.iconst 0, 1, [], .inl (0), []) else none
      else
       bif Nat.beq pc 118 then some (.ifCond .eq 5, 3, [], .inl 0, []) else none
     else
      bif Nat.ble 117 pc then
       bif Nat.beq pc 117 then some (.lcmp, 1, [], .inl 0, []) else none
      else
       bif Nat.beq pc 115 then some (.lload 8, 2, [], .inl 0, []) else none
   else
    bif Nat.ble 108 pc then
     bif Nat.ble 111 pc then
      bif Nat.ble 113 pc then
       bif Nat.beq pc 113 then some (.lload 6, 2, [], .inl 0, []) else none
      else
       bif Nat.beq pc 111 then some (.lstore 8, 2, [], .inl 0, []) else none
     else
      bif Nat.ble 110 pc then
       bif Nat.beq pc 110 then some (.laload, 1, [], .inl 0, []) else none
      else
       bif Nat.beq pc 108 then some (.iload 4, 2, [], .inl 0, []) else none
    else
     bif Nat.ble 104 pc then
      bif Nat.ble 105 pc then
       bif Nat.beq pc 105 then some (.getfield 258, 3, [7, 449, 2], .inl 0, []) else none
      else
       bif Nat.beq pc 104 then some (.aload_n 2, 1, [], .inl 0, []) else none
     else
      bif Nat.ble 101 pc then
       bif Nat.beq pc 101 then some (.goto 10, 3, [], .inl 0, []) else none
      else
       bif Nat.beq pc 98 then some (.invokevirtual 437, 3, [136, 2, 2, 4, 11], .inl 0, []) else none
  else
   bif Nat.ble 83 pc then
    bif Nat.ble 91 pc then
     bif Nat.ble 95 pc then
      bif Nat.ble 97 pc then
       bif Nat.beq pc 97 then some (.laload, 1, [], .inl 0, []) else none
      else
       bif Nat.beq pc 95 then some (.iload 4, 2, [], .inl 0, []) else none
     else
      bif Nat.ble 92 pc then
       bif Nat.beq pc 92 then some (.getfield 258, 3, [7, 449, 2], .inl 0, []) else none
      else
       bif Nat.beq pc 91 then some (.aload_n 2, 1, [], .inl 0, []) else none
    else
     bif Nat.ble 87 pc then
      bif Nat.ble 90 pc then
       bif Nat.beq pc 90 then some (.aload_n 0, 1, [], .inl 0, []) else none
      else
       bif Nat.beq pc 87 then some (.ifCond .eq 17, 3, [], .inl 0, []) else none
     else
      bif Nat.ble 85 pc then
       bif Nat.beq pc 85 then some (.iload 5, 2, [], .inl 0, []) else none
      else
       bif Nat.beq pc 83 then some (.lstore 6, 2, [], .inl 0, []) else none
   else
    bif Nat.ble 76 pc then
     bif Nat.ble 80 pc then
      bif Nat.ble 82 pc then
       bif Nat.beq pc 82 then some (.laload, 1, [], .inl 0, []) else none
      else
       bif Nat.beq pc 80 then some (.iload 4, 2, [], .inl 0, []) else none
     else
      bif Nat.ble 77 pc then
       bif Nat.beq pc 77 then some (.getfield 258, 3, [7, 449, 2], .inl 0, []) else none
      else
       bif Nat.beq pc 76 then some (.aload_n 1, 1, [], .inl 0, []) else none
    else
     bif Nat.ble 70 pc then
      bif Nat.ble 73 pc then
       bif Nat.beq pc 73 then some (.goto 10, 3, [], .inl 0, []) else none
      else
       bif Nat.beq pc 70 then some (.invokevirtual 437, 3, [136, 2, 2, 4, 11], .inl 0, []) else none
     else
      bif Nat.ble 69 pc then
       bif Nat.beq pc 69 then some (.laload, 1, [], .inl 0, []) else none
      else
       bif Nat.beq pc 67 then some (.iload 4, 2, [], .inl 0, []) else none
 else
  bif Nat.ble 30 pc then
   bif Nat.ble 50 pc then
    bif Nat.ble 57 pc then
     bif Nat.ble 62 pc then
      bif Nat.ble 63 pc then
       bif Nat.ble 64 pc then
        bif Nat.beq pc 64 then some (.getfield 258, 3, [7, 449, 2], .inl 0, []) else none
       else
        bif Nat.beq pc 63 then some (.aload_n 1, 1, [], .inl 0, []) else none
      else
       bif Nat.beq pc 62 then some (.aload_n 0, 1, [], .inl 0, []) else none
     else
      bif Nat.ble 59 pc then
       bif Nat.beq pc 59 then some (.ifCond .eq 17, 3, [], .inl 0, []) else none
      else
       bif Nat.beq pc 57 then some (.iload 5, 2, [], .inl 0, []) else none
    else
     bif Nat.ble 54 pc then
      bif Nat.ble 55 pc then
       bif Nat.beq pc 55 then some (.istore 5, 2, [], .inl 0, []) else none
      else
       bif Nat.beq pc 54 then some (.iconst 0, 1, [], .inl (0), []) else none
     else
      bif Nat.ble 51 pc then
       bif Nat.beq pc 51 then some (.goto 4, 3, [], .inl 0, []) else none
      else
       bif Nat.beq pc 50 then some (.iconst 1, 1, [], .inl (1), []) else none
   else
    bif Nat.ble 39 pc then
     bif Nat.ble 45 pc then
      bif Nat.ble 47 pc then
       bif Nat.beq pc 47 then some (.if_icmp .ne 7, 3, [], .inl 0, []) else none
      else
       bif Nat.beq pc 45 then some (.bipush 11, 2, [], .inl (11), []) else none
     else
      bif Nat.ble 42 pc then
       bif Nat.beq pc 42 then some (.getfield 158, 3, [8, 513, 0], .inl 0, []) else none
      else
       bif Nat.beq pc 39 then some (.checkcast 138, 3, [8], .inl 0, []) else none
    else
     bif Nat.ble 34 pc then
      bif Nat.ble 36 pc then
       bif Nat.beq pc 36 then some (.invokevirtual 190, 3, [16, 2, 3, 2, 0], .inl 0, []) else none
      else
       bif Nat.beq pc 34 then some (.iload 4, 2, [], .inl 0, []) else none
     else
      bif Nat.ble 31 pc then
       bif Nat.beq pc 31 then some (.getfield 135, 3, [9, 576, 2], .inl 0, []) else none
      else
       bif Nat.beq pc 30 then some (.aload_n 3, 1, [], .inl 0, []) else none
  else
   bif Nat.ble 14 pc then
    bif Nat.ble 20 pc then
     bif Nat.ble 24 pc then
      bif Nat.ble 27 pc then
       bif Nat.beq pc 27 then some (.if_icmp .ge 102, 3, [], .inl 0, []) else none
      else
       bif Nat.beq pc 24 then some (.invokevirtual 52, 3, [14, 1, 1, 1, 0], .inl 0, []) else none
     else
      bif Nat.ble 21 pc then
       bif Nat.beq pc 21 then some (.getfield 135, 3, [9, 576, 2], .inl 0, []) else none
      else
       bif Nat.beq pc 20 then some (.aload_n 3, 1, [], .inl 0, []) else none
    else
     bif Nat.ble 16 pc then
      bif Nat.ble 18 pc then
       bif Nat.beq pc 18 then some (.iload 4, 2, [], .inl 0, [5, 6, 7, 8, 9]) else none
      else
       bif Nat.beq pc 16 then some (.istore 4, 2, [], .inl 0, []) else none
     else
      bif Nat.ble 15 pc then
       bif Nat.beq pc 15 then some (.iconst 0, 1, [], .inl (0), []) else none
      else
       bif Nat.beq pc 14 then some (.ireturn, 1, [1], .inl 0, []) else none
   else
    bif Nat.ble 8 pc then
     bif Nat.ble 10 pc then
      bif Nat.ble 13 pc then
       bif Nat.beq pc 13 then some (.iconst 0, 1, [], .inl (0), []) else none
      else
       bif Nat.beq pc 10 then some (.ifnonnull 5, 3, [], .inl 0, []) else none
     else
      bif Nat.ble 9 pc then
       bif Nat.beq pc 9 then some (.aload_n 3, 1, [], .inl 0, []) else none
      else
       bif Nat.beq pc 8 then some (.astore_n 3, 1, [], .inl 0, []) else none
    else
     bif Nat.ble 2 pc then
      bif Nat.ble 5 pc then
       bif Nat.beq pc 5 then some (.invokevirtual 124, 3, [108, 2, 3, 2, 11], .inl 0, []) else none
      else
       bif Nat.beq pc 2 then some (.getfield 253, 3, [7, 448, 0], .inl 0, []) else none
     else
      bif Nat.ble 1 pc then
       bif Nat.beq pc 1 then some (.aload_n 1, 1, [], .inl 0, []) else none
      else
       bif Nat.beq pc 0 then some (.aload_n 0, 1, [], .inl 0, []) else none
def kX11_twinOf (pc : Nat) : Option Ent := bif Nat.ble 22 pc then none else
 bif Nat.ble 10 pc then
  bif Nat.ble 17 pc then
   bif Nat.ble 20 pc then
    bif Nat.ble 21 pc then
     bif Nat.beq pc 21 then some (.lreturn, 1, [], .inl 0, []) else none
    else
     bif Nat.beq pc 20 then some (.i2l, 1, [], .inl 0, []) else none
   else
    bif Nat.beq pc 17 then some (.getfield 267, 3, [7, 450, 0], .inl 0, []) else none
  else
   bif Nat.ble 13 pc then
    bif Nat.ble 16 pc then
     bif Nat.beq pc 16 then some (.aload_n 3, 1, [], .inl 0, []) else none
    else
     bif Nat.beq pc 13 then some (.goto 8, 3, [], .inl 0, []) else none
   else
    bif Nat.beq pc 10 then some (.ldc2_w 347, 3, [], .inr (.inl (-1)), []) else none
 else
  bif Nat.ble 5 pc then
   bif Nat.ble 6 pc then
    bif Nat.ble 7 pc then
     bif Nat.beq pc 7 then some (.ifnonnull 9, 3, [], .inl 0, []) else none
    else
     bif Nat.beq pc 6 then some (.aload_n 3, 1, [], .inl 0, []) else none
   else
    bif Nat.beq pc 5 then some (.astore_n 3, 1, [], .inl 0, []) else none
  else
   bif Nat.ble 1 pc then
    bif Nat.ble 2 pc then
     bif Nat.beq pc 2 then some (.invokevirtual 245, 3, [111, 2, 3, 3, 11], .inl 0, []) else none
    else
     bif Nat.beq pc 1 then some (.lload_n 1, 1, [], .inl 0, []) else none
   else
    bif Nat.beq pc 0 then some (.aload_n 0, 1, [], .inl 0, []) else none
def kX11_countToKeep (pc : Nat) : Option Ent := bif Nat.ble 95 pc then none else
 bif Nat.ble 41 pc then
  bif Nat.ble 68 pc then
   bif Nat.ble 82 pc then
    bif Nat.ble 90 pc then
     bif Nat.ble 93 pc then
      bif Nat.ble 94 pc then
       bif Nat.beq pc 94 then some (.ireturn, 1, [], .inl 0, []) else none
      else
       bif Nat.beq pc 93 then some (.iload_n 2, 1, [], .inl 0, []) else none
     else
      bif Nat.beq pc 90 then some (.goto (-49), 3, [], .inl 0, []) else none
    else
     bif Nat.ble 84 pc then
      bif Nat.ble 87 pc then
       bif Nat.beq pc 87 then some (.iinc 3 (-1), 3, [], .inl (-1), []) else none
      else
       bif Nat.beq pc 84 then some (.invokevirtual 444, 3, [138, 2, 0, 5, 11], .inl 0, []) else none
     else
      bif Nat.beq pc 82 then some (.aload 4, 2, [], .inl 0, []) else none
   else
    bif Nat.ble 75 pc then
     bif Nat.ble 78 pc then
      bif Nat.ble 81 pc then
       bif Nat.beq pc 81 then some (.aload_n 0, 1, [], .inl 0, []) else none
      else
       bif Nat.beq pc 78 then some (.iinc 2 1, 3, [], .inl (1), []) else none
     else
      bif Nat.beq pc 75 then some (.goto 12, 3, [], .inl 0, []) else none
    else
     bif Nat.ble 71 pc then
      bif Nat.ble 72 pc then
       bif Nat.beq pc 72 then some (.if_icmp .eq 6, 3, [], .inl 0, []) else none
      else
       bif Nat.beq pc 71 then some (.iconst (-1), 1, [], .inl (-1), []) else none
     else
      bif Nat.beq pc 68 then some (.getfield 282, 3, [7, 451, 0], .inl 0, []) else none
  else
   bif Nat.ble 53 pc then
    bif Nat.ble 60 pc then
     bif Nat.ble 63 pc then
      bif Nat.ble 66 pc then
       bif Nat.beq pc 66 then some (.aload 4, 2, [], .inl 0, []) else none
      else
       bif Nat.beq pc 63 then some (.ifCond .eq 24, 3, [], .inl 0, []) else none
     else
      bif Nat.beq pc 60 then some (.getfield 441, 3, [7, 452, 0], .inl 0, []) else none
    else
     bif Nat.ble 56 pc then
      bif Nat.ble 58 pc then
       bif Nat.beq pc 58 then some (.aload 4, 2, [], .inl 0, []) else none
      else
       bif Nat.beq pc 56 then some (.astore 4, 2, [], .inl 0, []) else none
     else
      bif Nat.beq pc 53 then some (.checkcast 254, 3, [7], .inl 0, []) else none
   else
    bif Nat.ble 46 pc then
     bif Nat.ble 49 pc then
      bif Nat.ble 50 pc then
       bif Nat.beq pc 50 then some (.invokevirtual 190, 3, [16, 2, 3, 2, 0], .inl 0, []) else none
      else
       bif Nat.beq pc 49 then some (.iload_n 3, 1, [], .inl 0, []) else none
     else
      bif Nat.beq pc 46 then some (.getfield 25, 3, [11, 710, 2], .inl 0, []) else none
    else
     bif Nat.ble 42 pc then
      bif Nat.ble 45 pc then
       bif Nat.beq pc 45 then some (.aload_n 0, 1, [], .inl 0, []) else none
      else
       bif Nat.beq pc 42 then some (.ifCond .lt 51, 3, [], .inl 0, []) else none
     else
      bif Nat.beq pc 41 then some (.iload_n 3, 1, [], .inl 0, [1, 4]) else none
 else
  bif Nat.ble 19 pc then
   bif Nat.ble 31 pc then
    bif Nat.ble 38 pc then
     bif Nat.ble 39 pc then
      bif Nat.ble 40 pc then
       bif Nat.beq pc 40 then some (.istore_n 3, 1, [], .inl 0, []) else none
      else
       bif Nat.beq pc 39 then some (.iload_n 1, 1, [], .inl 0, []) else none
     else
      bif Nat.beq pc 38 then some (.istore_n 2, 1, [], .inl 0, []) else none
    else
     bif Nat.ble 34 pc then
      bif Nat.ble 37 pc then
       bif Nat.beq pc 37 then some (.iconst 0, 1, [], .inl (0), []) else none
      else
       bif Nat.beq pc 34 then some (.goto (-32), 3, [], .inl 0, []) else none
     else
      bif Nat.beq pc 31 then some (.iinc 2 1, 3, [], .inl (1), []) else none
   else
    bif Nat.ble 24 pc then
     bif Nat.ble 27 pc then
      bif Nat.ble 28 pc then
       bif Nat.beq pc 28 then some (.putfield 441, 3, [7, 452, 3], .inl 0, []) else none
      else
       bif Nat.beq pc 27 then some (.iconst 0, 1, [], .inl (0), []) else none
     else
      bif Nat.beq pc 24 then some (.goto 4, 3, [], .inl 0, []) else none
    else
     bif Nat.ble 20 pc then
      bif Nat.ble 23 pc then
       bif Nat.beq pc 23 then some (.iconst 1, 1, [], .inl (1), []) else none
      else
       bif Nat.beq pc 20 then some (.if_icmp .ne 7, 3, [], .inl 0, []) else none
     else
      bif Nat.beq pc 19 then some (.iload_n 1, 1, [], .inl 0, []) else none
  else
   bif Nat.ble 7 pc then
    bif Nat.ble 12 pc then
     bif Nat.ble 15 pc then
      bif Nat.ble 18 pc then
       bif Nat.beq pc 18 then some (.iload_n 2, 1, [], .inl 0, []) else none
      else
       bif Nat.beq pc 15 then some (.checkcast 254, 3, [7], .inl 0, []) else none
     else
      bif Nat.beq pc 12 then some (.invokevirtual 190, 3, [16, 2, 3, 2, 0], .inl 0, []) else none
    else
     bif Nat.ble 8 pc then
      bif Nat.ble 11 pc then
       bif Nat.beq pc 11 then some (.iload_n 2, 1, [], .inl 0, []) else none
      else
       bif Nat.beq pc 8 then some (.getfield 25, 3, [11, 710, 2], .inl 0, []) else none
     else
      bif Nat.beq pc 7 then some (.aload_n 0, 1, [], .inl 0, []) else none
   else
    bif Nat.ble 2 pc then
     bif Nat.ble 3 pc then
      bif Nat.ble 4 pc then
       bif Nat.beq pc 4 then some (.if_icmp .gt 33, 3, [], .inl 0, []) else none
      else
       bif Nat.beq pc 3 then some (.iload_n 1, 1, [], .inl 0, []) else none
     else
      bif Nat.beq pc 2 then some (.iload_n 2, 1, [], .inl 0, [3, 4]) else none
    else
     bif Nat.ble 1 pc then
      bif Nat.beq pc 1 then some (.istore_n 2, 1, [], .inl 0, []) else none
     else
      bif Nat.beq pc 0 then some (.iconst 0, 1, [], .inl (0), []) else none
def kX11_wantParts (pc : Nat) : Option Ent := bif Nat.ble 80 pc then none else
 bif Nat.ble 38 pc then
  bif Nat.ble 59 pc then
   bif Nat.ble 69 pc then
    bif Nat.ble 73 pc then
     bif Nat.ble 76 pc then
      bif Nat.ble 79 pc then
       bif Nat.beq pc 79 then some (.return_, 1, [], .inl 0, []) else none
      else
       bif Nat.beq pc 76 then some (.goto (-60), 3, [], .inl 0, []) else none
     else
      bif Nat.beq pc 73 then some (.iinc 3 1, 3, [], .inl (1), []) else none
    else
     bif Nat.ble 70 pc then
      bif Nat.beq pc 70 then some (.putfield 441, 3, [7, 452, 3], .inl 0, []) else none
     else
      bif Nat.beq pc 69 then some (.iconst 1, 1, [], .inl (1), []) else none
   else
    bif Nat.ble 62 pc then
     bif Nat.ble 64 pc then
      bif Nat.ble 67 pc then
       bif Nat.beq pc 67 then some (.aload 4, 2, [], .inl 0, []) else none
      else
       bif Nat.beq pc 64 then some (.ifnull 9, 3, [], .inl 0, []) else none
     else
      bif Nat.beq pc 62 then some (.aload 4, 2, [], .inl 0, []) else none
    else
     bif Nat.ble 60 pc then
      bif Nat.beq pc 60 then some (.astore 4, 2, [], .inl 0, []) else none
     else
      bif Nat.beq pc 59 then some (.aconst_null, 1, [], .inl 0, []) else none
  else
   bif Nat.ble 48 pc then
    bif Nat.ble 52 pc then
     bif Nat.ble 53 pc then
      bif Nat.ble 56 pc then
       bif Nat.beq pc 56 then some (.goto 4, 3, [], .inl 0, []) else none
      else
       bif Nat.beq pc 53 then some (.invokevirtual 245, 3, [111, 2, 3, 3, 11], .inl 0, []) else none
     else
      bif Nat.beq pc 52 then some (.laload, 1, [], .inl 0, []) else none
    else
     bif Nat.ble 51 pc then
      bif Nat.beq pc 51 then some (.iload_n 3, 1, [], .inl 0, []) else none
     else
      bif Nat.beq pc 48 then some (.getfield 258, 3, [7, 449, 2], .inl 0, []) else none
   else
    bif Nat.ble 43 pc then
     bif Nat.ble 46 pc then
      bif Nat.ble 47 pc then
       bif Nat.beq pc 47 then some (.aload_n 1, 1, [], .inl 0, []) else none
      else
       bif Nat.beq pc 46 then some (.aload_n 0, 1, [], .inl 0, []) else none
     else
      bif Nat.beq pc 43 then some (.if_icmp .ne 16, 3, [], .inl 0, []) else none
    else
     bif Nat.ble 41 pc then
      bif Nat.beq pc 41 then some (.bipush 11, 2, [], .inl (11), []) else none
     else
      bif Nat.beq pc 38 then some (.getfield 158, 3, [8, 513, 0], .inl 0, []) else none
 else
  bif Nat.ble 16 pc then
   bif Nat.ble 27 pc then
    bif Nat.ble 31 pc then
     bif Nat.ble 32 pc then
      bif Nat.ble 35 pc then
       bif Nat.beq pc 35 then some (.checkcast 138, 3, [8], .inl 0, []) else none
      else
       bif Nat.beq pc 32 then some (.invokevirtual 190, 3, [16, 2, 3, 2, 0], .inl 0, []) else none
     else
      bif Nat.beq pc 31 then some (.iload_n 3, 1, [], .inl 0, []) else none
    else
     bif Nat.ble 28 pc then
      bif Nat.beq pc 28 then some (.getfield 135, 3, [9, 576, 2], .inl 0, []) else none
     else
      bif Nat.beq pc 27 then some (.aload_n 2, 1, [], .inl 0, []) else none
   else
    bif Nat.ble 18 pc then
     bif Nat.ble 21 pc then
      bif Nat.ble 24 pc then
       bif Nat.beq pc 24 then some (.if_icmp .ge 55, 3, [], .inl 0, []) else none
      else
       bif Nat.beq pc 21 then some (.invokevirtual 52, 3, [14, 1, 1, 1, 0], .inl 0, []) else none
     else
      bif Nat.beq pc 18 then some (.getfield 135, 3, [9, 576, 2], .inl 0, []) else none
    else
     bif Nat.ble 17 pc then
      bif Nat.beq pc 17 then some (.aload_n 2, 1, [], .inl 0, []) else none
     else
      bif Nat.beq pc 16 then some (.iload_n 3, 1, [], .inl 0, [4]) else none
  else
   bif Nat.ble 9 pc then
    bif Nat.ble 13 pc then
     bif Nat.ble 14 pc then
      bif Nat.ble 15 pc then
       bif Nat.beq pc 15 then some (.istore_n 3, 1, [], .inl 0, []) else none
      else
       bif Nat.beq pc 14 then some (.iconst 0, 1, [], .inl (0), []) else none
     else
      bif Nat.beq pc 13 then some (.return_, 1, [], .inl 0, []) else none
    else
     bif Nat.ble 10 pc then
      bif Nat.beq pc 10 then some (.ifnonnull 4, 3, [], .inl 0, []) else none
     else
      bif Nat.beq pc 9 then some (.aload_n 2, 1, [], .inl 0, []) else none
   else
    bif Nat.ble 2 pc then
     bif Nat.ble 5 pc then
      bif Nat.ble 8 pc then
       bif Nat.beq pc 8 then some (.astore_n 2, 1, [], .inl 0, []) else none
      else
       bif Nat.beq pc 5 then some (.invokevirtual 124, 3, [108, 2, 3, 2, 11], .inl 0, []) else none
     else
      bif Nat.beq pc 2 then some (.getfield 253, 3, [7, 448, 0], .inl 0, []) else none
    else
     bif Nat.ble 1 pc then
      bif Nat.beq pc 1 then some (.aload_n 1, 1, [], .inl 0, []) else none
     else
      bif Nat.beq pc 0 then some (.aload_n 0, 1, [], .inl 0, []) else none
def kX11_keepInOrder (pc : Nat) : Option Ent := bif Nat.ble 95 pc then none else
 bif Nat.ble 42 pc then
  bif Nat.ble 69 pc then
   bif Nat.ble 81 pc then
    bif Nat.ble 87 pc then
     bif Nat.ble 91 pc then
      bif Nat.ble 94 pc then
       bif Nat.beq pc 94 then some (.return_, 1, [], .inl 0, []) else none
      else
       bif Nat.beq pc 91 then some (.goto (-80), 3, [], .inl 0, []) else none
     else
      bif Nat.ble 88 pc then
       bif Nat.beq pc 88 then some (.iinc 3 1, 3, [], .inl (1), []) else none
      else
       bif Nat.beq pc 87 then some (.iastore, 1, [], .inl 0, []) else none
    else
     bif Nat.ble 82 pc then
      bif Nat.ble 85 pc then
       bif Nat.beq pc 85 then some (.iload 5, 2, [], .inl 0, []) else none
      else
       bif Nat.beq pc 82 then some (.iinc 2 1, 3, [], .inl (1), []) else none
     else
      bif Nat.beq pc 81 then some (.iload_n 2, 1, [], .inl 0, []) else none
   else
    bif Nat.ble 74 pc then
     bif Nat.ble 77 pc then
      bif Nat.ble 78 pc then
       bif Nat.beq pc 78 then some (.getfield 45, 3, [11, 720, 2], .inl 0, []) else none
      else
       bif Nat.beq pc 77 then some (.aload_n 0, 1, [], .inl 0, []) else none
     else
      bif Nat.beq pc 74 then some (.if_icmp .ge 14, 3, [], .inl 0, []) else none
    else
     bif Nat.ble 70 pc then
      bif Nat.ble 73 pc then
       bif Nat.beq pc 73 then some (.arraylength, 1, [], .inl 0, []) else none
      else
       bif Nat.beq pc 70 then some (.getfield 45, 3, [11, 720, 2], .inl 0, []) else none
     else
      bif Nat.beq pc 69 then some (.aload_n 0, 1, [], .inl 0, []) else none
  else
   bif Nat.ble 53 pc then
    bif Nat.ble 59 pc then
     bif Nat.ble 65 pc then
      bif Nat.ble 68 pc then
       bif Nat.beq pc 68 then some (.iload_n 2, 1, [], .inl 0, []) else none
      else
       bif Nat.beq pc 65 then some (.goto 23, 3, [], .inl 0, []) else none
     else
      bif Nat.ble 62 pc then
       bif Nat.beq pc 62 then some (.iinc 2 (-1), 3, [], .inl (-1), []) else none
      else
       bif Nat.beq pc 59 then some (.invokevirtual 452, 3, [141, 2, 0, 5, 11], .inl 0, []) else none
    else
     bif Nat.ble 56 pc then
      bif Nat.ble 57 pc then
       bif Nat.beq pc 57 then some (.aload 4, 2, [], .inl 0, []) else none
      else
       bif Nat.beq pc 56 then some (.aload_n 0, 1, [], .inl 0, []) else none
     else
      bif Nat.beq pc 53 then some (.if_icmp .ne 15, 3, [], .inl 0, []) else none
   else
    bif Nat.ble 48 pc then
     bif Nat.ble 50 pc then
      bif Nat.ble 52 pc then
       bif Nat.beq pc 52 then some (.iconst (-1), 1, [], .inl (-1), []) else none
      else
       bif Nat.beq pc 50 then some (.iload 5, 2, [], .inl 0, []) else none
     else
      bif Nat.beq pc 48 then some (.istore 5, 2, [], .inl 0, []) else none
    else
     bif Nat.ble 43 pc then
      bif Nat.ble 45 pc then
       bif Nat.beq pc 45 then some (.invokevirtual 448, 3, [140, 2, 1, 5, 11], .inl 0, []) else none
      else
       bif Nat.beq pc 43 then some (.aload 4, 2, [], .inl 0, []) else none
     else
      bif Nat.beq pc 42 then some (.aload_n 0, 1, [], .inl 0, []) else none
 else
  bif Nat.ble 18 pc then
   bif Nat.ble 30 pc then
    bif Nat.ble 33 pc then
     bif Nat.ble 37 pc then
      bif Nat.ble 40 pc then
       bif Nat.beq pc 40 then some (.astore 4, 2, [], .inl 0, []) else none
      else
       bif Nat.beq pc 37 then some (.checkcast 254, 3, [7], .inl 0, []) else none
     else
      bif Nat.ble 34 pc then
       bif Nat.beq pc 34 then some (.invokevirtual 190, 3, [16, 2, 3, 2, 0], .inl 0, []) else none
      else
       bif Nat.beq pc 33 then some (.iaload, 1, [], .inl 0, []) else none
    else
     bif Nat.ble 31 pc then
      bif Nat.ble 32 pc then
       bif Nat.beq pc 32 then some (.isub, 1, [], .inl 0, []) else none
      else
       bif Nat.beq pc 31 then some (.iconst 1, 1, [], .inl (1), []) else none
     else
      bif Nat.beq pc 30 then some (.iload_n 2, 1, [], .inl 0, []) else none
   else
    bif Nat.ble 23 pc then
     bif Nat.ble 26 pc then
      bif Nat.ble 27 pc then
       bif Nat.beq pc 27 then some (.getfield 45, 3, [11, 720, 2], .inl 0, []) else none
      else
       bif Nat.beq pc 26 then some (.aload_n 0, 1, [], .inl 0, []) else none
     else
      bif Nat.beq pc 23 then some (.getfield 25, 3, [11, 710, 2], .inl 0, []) else none
    else
     bif Nat.ble 19 pc then
      bif Nat.ble 22 pc then
       bif Nat.beq pc 22 then some (.aload_n 0, 1, [], .inl 0, []) else none
      else
       bif Nat.beq pc 19 then some (.ifCond .le 75, 3, [], .inl 0, []) else none
     else
      bif Nat.beq pc 18 then some (.iload_n 2, 1, [], .inl 0, []) else none
  else
   bif Nat.ble 8 pc then
    bif Nat.ble 11 pc then
     bif Nat.ble 12 pc then
      bif Nat.ble 15 pc then
       bif Nat.beq pc 15 then some (.if_icmp .ge 79, 3, [], .inl 0, []) else none
      else
       bif Nat.beq pc 12 then some (.sipush 128, 3, [], .inl (128), []) else none
     else
      bif Nat.beq pc 11 then some (.iload_n 3, 1, [], .inl 0, [1, 4, 5]) else none
    else
     bif Nat.ble 9 pc then
      bif Nat.ble 10 pc then
       bif Nat.beq pc 10 then some (.istore_n 3, 1, [], .inl 0, []) else none
      else
       bif Nat.beq pc 9 then some (.iconst 0, 1, [], .inl (0), []) else none
     else
      bif Nat.beq pc 8 then some (.iastore, 1, [], .inl 0, []) else none
   else
    bif Nat.ble 3 pc then
     bif Nat.ble 6 pc then
      bif Nat.ble 7 pc then
       bif Nat.beq pc 7 then some (.iload_n 1, 1, [], .inl 0, []) else none
      else
       bif Nat.beq pc 6 then some (.iconst 0, 1, [], .inl (0), []) else none
     else
      bif Nat.beq pc 3 then some (.getfield 45, 3, [11, 720, 2], .inl 0, []) else none
    else
     bif Nat.ble 1 pc then
      bif Nat.ble 2 pc then
       bif Nat.beq pc 2 then some (.aload_n 0, 1, [], .inl 0, []) else none
      else
       bif Nat.beq pc 1 then some (.istore_n 2, 1, [], .inl 0, []) else none
     else
      bif Nat.beq pc 0 then some (.iconst 1, 1, [], .inl (1), []) else none
def kX11_firstPartToKeep (pc : Nat) : Option Ent := bif Nat.ble 93 pc then none else
 bif Nat.ble 47 pc then
  bif Nat.ble 70 pc then
   bif Nat.ble 82 pc then
    bif Nat.ble 85 pc then
     bif Nat.ble 91 pc then
      bif Nat.ble 92 pc then
       bif Nat.beq pc 92 then some (.ireturn, 1, [], .inl 0, []) else none
      else
       bif Nat.beq pc 91 then some (.iconst (-1), 1, [], .inl (-1), []) else none
     else
      bif Nat.ble 88 pc then
       bif Nat.beq pc 88 then some (.goto (-71), 3, [], .inl 0, []) else none
      else
       bif Nat.beq pc 85 then some (.iinc 3 1, 3, [], .inl (1), []) else none
    else
     bif Nat.ble 83 pc then
      bif Nat.ble 84 pc then
       bif Nat.beq pc 84 then some (.ireturn, 1, [], .inl 0, []) else none
      else
       bif Nat.beq pc 83 then some (.l2i, 1, [], .inl 0, []) else none
     else
      bif Nat.beq pc 82 then some (.laload, 1, [], .inl 0, []) else none
   else
    bif Nat.ble 77 pc then
     bif Nat.ble 78 pc then
      bif Nat.ble 81 pc then
       bif Nat.beq pc 81 then some (.iload_n 3, 1, [], .inl 0, []) else none
      else
       bif Nat.beq pc 78 then some (.getfield 258, 3, [7, 449, 2], .inl 0, []) else none
     else
      bif Nat.beq pc 77 then some (.aload_n 1, 1, [], .inl 0, []) else none
    else
     bif Nat.ble 73 pc then
      bif Nat.ble 74 pc then
       bif Nat.beq pc 74 then some (.if_icmp .ne 11, 3, [], .inl 0, []) else none
      else
       bif Nat.beq pc 73 then some (.iconst (-1), 1, [], .inl (-1), []) else none
     else
      bif Nat.beq pc 70 then some (.getfield 282, 3, [7, 451, 0], .inl 0, []) else none
  else
   bif Nat.ble 57 pc then
    bif Nat.ble 63 pc then
     bif Nat.ble 65 pc then
      bif Nat.ble 68 pc then
       bif Nat.beq pc 68 then some (.aload 4, 2, [], .inl 0, []) else none
      else
       bif Nat.beq pc 65 then some (.ifnull 20, 3, [], .inl 0, []) else none
     else
      bif Nat.beq pc 63 then some (.aload 4, 2, [], .inl 0, []) else none
    else
     bif Nat.ble 60 pc then
      bif Nat.ble 61 pc then
       bif Nat.beq pc 61 then some (.astore 4, 2, [], .inl 0, []) else none
      else
       bif Nat.beq pc 60 then some (.aconst_null, 1, [], .inl 0, []) else none
     else
      bif Nat.beq pc 57 then some (.goto 4, 3, [], .inl 0, []) else none
   else
    bif Nat.ble 52 pc then
     bif Nat.ble 53 pc then
      bif Nat.ble 54 pc then
       bif Nat.beq pc 54 then some (.invokevirtual 245, 3, [111, 2, 3, 3, 11], .inl 0, []) else none
      else
       bif Nat.beq pc 53 then some (.laload, 1, [], .inl 0, []) else none
     else
      bif Nat.beq pc 52 then some (.iload_n 3, 1, [], .inl 0, []) else none
    else
     bif Nat.ble 48 pc then
      bif Nat.ble 49 pc then
       bif Nat.beq pc 49 then some (.getfield 258, 3, [7, 449, 2], .inl 0, []) else none
      else
       bif Nat.beq pc 48 then some (.aload_n 1, 1, [], .inl 0, []) else none
     else
      bif Nat.beq pc 47 then some (.aload_n 0, 1, [], .inl 0, []) else none
 else
  bif Nat.ble 18 pc then
   bif Nat.ble 32 pc then
    bif Nat.ble 39 pc then
     bif Nat.ble 42 pc then
      bif Nat.ble 44 pc then
       bif Nat.beq pc 44 then some (.if_icmp .ne 16, 3, [], .inl 0, []) else none
      else
       bif Nat.beq pc 42 then some (.bipush 11, 2, [], .inl (11), []) else none
     else
      bif Nat.beq pc 39 then some (.getfield 158, 3, [8, 513, 0], .inl 0, []) else none
    else
     bif Nat.ble 33 pc then
      bif Nat.ble 36 pc then
       bif Nat.beq pc 36 then some (.checkcast 138, 3, [8], .inl 0, []) else none
      else
       bif Nat.beq pc 33 then some (.invokevirtual 190, 3, [16, 2, 3, 2, 0], .inl 0, []) else none
     else
      bif Nat.beq pc 32 then some (.iload_n 3, 1, [], .inl 0, []) else none
   else
    bif Nat.ble 25 pc then
     bif Nat.ble 28 pc then
      bif Nat.ble 29 pc then
       bif Nat.beq pc 29 then some (.getfield 135, 3, [9, 576, 2], .inl 0, []) else none
      else
       bif Nat.beq pc 28 then some (.aload_n 2, 1, [], .inl 0, []) else none
     else
      bif Nat.beq pc 25 then some (.if_icmp .ge 66, 3, [], .inl 0, []) else none
    else
     bif Nat.ble 19 pc then
      bif Nat.ble 22 pc then
       bif Nat.beq pc 22 then some (.invokevirtual 52, 3, [14, 1, 1, 1, 0], .inl 0, []) else none
      else
       bif Nat.beq pc 19 then some (.getfield 135, 3, [9, 576, 2], .inl 0, []) else none
     else
      bif Nat.beq pc 18 then some (.aload_n 2, 1, [], .inl 0, []) else none
  else
   bif Nat.ble 10 pc then
    bif Nat.ble 15 pc then
     bif Nat.ble 16 pc then
      bif Nat.ble 17 pc then
       bif Nat.beq pc 17 then some (.iload_n 3, 1, [], .inl 0, [4]) else none
      else
       bif Nat.beq pc 16 then some (.istore_n 3, 1, [], .inl 0, []) else none
     else
      bif Nat.beq pc 15 then some (.iconst 0, 1, [], .inl (0), []) else none
    else
     bif Nat.ble 13 pc then
      bif Nat.ble 14 pc then
       bif Nat.beq pc 14 then some (.ireturn, 1, [], .inl 0, []) else none
      else
       bif Nat.beq pc 13 then some (.iconst (-1), 1, [], .inl (-1), []) else none
     else
      bif Nat.beq pc 10 then some (.ifnonnull 5, 3, [], .inl 0, []) else none
   else
    bif Nat.ble 5 pc then
     bif Nat.ble 8 pc then
      bif Nat.ble 9 pc then
       bif Nat.beq pc 9 then some (.aload_n 2, 1, [], .inl 0, []) else none
      else
       bif Nat.beq pc 8 then some (.astore_n 2, 1, [], .inl 0, []) else none
     else
      bif Nat.beq pc 5 then some (.invokevirtual 124, 3, [108, 2, 3, 2, 11], .inl 0, []) else none
    else
     bif Nat.ble 1 pc then
      bif Nat.ble 2 pc then
       bif Nat.beq pc 2 then some (.getfield 253, 3, [7, 448, 0], .inl 0, []) else none
      else
       bif Nat.beq pc 1 then some (.aload_n 1, 1, [], .inl 0, []) else none
     else
      bif Nat.beq pc 0 then some (.aload_n 0, 1, [], .inl 0, []) else none
def kX11_addLine (pc : Nat) : Option Ent := bif Nat.ble 116 pc then none else
 bif Nat.ble 55 pc then
  bif Nat.ble 85 pc then
   bif Nat.ble 100 pc then
    bif Nat.ble 108 pc then
     bif Nat.ble 114 pc then
      bif Nat.ble 115 pc then
       bif Nat.beq pc 115 then some (.return_, 1, [], .inl 0, []) else none
      else
       bif Nat.beq pc 114 then some (.pop, 1, [], .inl 0, []) else none
     else
      bif Nat.ble 111 pc then
       bif Nat.beq pc 111 then some (.invokevirtual 59, 3, [19, 2, 1, 2, 0], .inl 0, []) else none
      else
       bif Nat.beq pc 108 then some (.invokespecial 459, 3, [59, 4, 0, 4, 6], .inl 0, []) else none
    else
     bif Nat.ble 104 pc then
      bif Nat.ble 107 pc then
       bif Nat.beq pc 107 then some (.aload_n 3, 1, [], .inl 0, []) else none
      else
       bif Nat.beq pc 104 then some (.getfield 172, 3, [11, 721, 0], .inl 0, []) else none
     else
      bif Nat.ble 103 pc then
       bif Nat.beq pc 103 then some (.aload_n 0, 1, [], .inl 0, []) else none
      else
       bif Nat.beq pc 100 then some (.getfield 253, 3, [7, 448, 0], .inl 0, []) else none
   else
    bif Nat.ble 92 pc then
     bif Nat.ble 98 pc then
      bif Nat.ble 99 pc then
       bif Nat.beq pc 99 then some (.aload_n 1, 1, [], .inl 0, []) else none
      else
       bif Nat.beq pc 98 then some (.dup, 1, [], .inl 0, []) else none
     else
      bif Nat.ble 95 pc then
       bif Nat.beq pc 95 then some (.new 199, 3, [6, 7], .inl 0, []) else none
      else
       bif Nat.beq pc 92 then some (.getfield 42, 3, [11, 719, 2], .inl 0, []) else none
    else
     bif Nat.ble 88 pc then
      bif Nat.ble 91 pc then
       bif Nat.beq pc 91 then some (.aload_n 0, 1, [], .inl 0, []) else none
      else
       bif Nat.beq pc 88 then some (.putfield 282, 3, [7, 451, 0], .inl 0, []) else none
     else
      bif Nat.beq pc 85 then some (.invokevirtual 52, 3, [14, 1, 1, 1, 0], .inl 0, []) else none
  else
   bif Nat.ble 70 pc then
    bif Nat.ble 77 pc then
     bif Nat.ble 81 pc then
      bif Nat.ble 82 pc then
       bif Nat.beq pc 82 then some (.getfield 42, 3, [11, 719, 2], .inl 0, []) else none
      else
       bif Nat.beq pc 81 then some (.aload_n 0, 1, [], .inl 0, []) else none
     else
      bif Nat.ble 80 pc then
       bif Nat.beq pc 80 then some (.aload_n 1, 1, [], .inl 0, []) else none
      else
       bif Nat.beq pc 77 then some (.goto (-37), 3, [], .inl 0, []) else none
    else
     bif Nat.ble 73 pc then
      bif Nat.ble 74 pc then
       bif Nat.beq pc 74 then some (.iinc 4 1, 3, [], .inl (1), []) else none
      else
       bif Nat.beq pc 73 then some (.aastore, 1, [], .inl 0, []) else none
     else
      bif Nat.beq pc 70 then some (.invokevirtual 455, 3, [142, 3, 3, 4, 11], .inl 0, []) else none
   else
    bif Nat.ble 63 pc then
     bif Nat.ble 67 pc then
      bif Nat.ble 69 pc then
       bif Nat.beq pc 69 then some (.laload, 1, [], .inl 0, []) else none
      else
       bif Nat.beq pc 67 then some (.iload 4, 2, [], .inl 0, []) else none
     else
      bif Nat.ble 64 pc then
       bif Nat.beq pc 64 then some (.getfield 258, 3, [7, 449, 2], .inl 0, []) else none
      else
       bif Nat.beq pc 63 then some (.aload_n 1, 1, [], .inl 0, []) else none
    else
     bif Nat.ble 57 pc then
      bif Nat.ble 60 pc then
       bif Nat.beq pc 60 then some (.checkcast 138, 3, [8], .inl 0, []) else none
      else
       bif Nat.beq pc 57 then some (.invokevirtual 190, 3, [16, 2, 3, 2, 0], .inl 0, []) else none
     else
      bif Nat.beq pc 55 then some (.iload 4, 2, [], .inl 0, []) else none
 else
  bif Nat.ble 27 pc then
   bif Nat.ble 42 pc then
    bif Nat.ble 48 pc then
     bif Nat.ble 51 pc then
      bif Nat.ble 52 pc then
       bif Nat.beq pc 52 then some (.getfield 135, 3, [9, 576, 2], .inl 0, []) else none
      else
       bif Nat.beq pc 51 then some (.aload_n 2, 1, [], .inl 0, []) else none
     else
      bif Nat.ble 50 pc then
       bif Nat.beq pc 50 then some (.aload_n 0, 1, [], .inl 0, []) else none
      else
       bif Nat.beq pc 48 then some (.iload 4, 2, [], .inl 0, []) else none
    else
     bif Nat.ble 44 pc then
      bif Nat.ble 47 pc then
       bif Nat.beq pc 47 then some (.aload_n 3, 1, [], .inl 0, []) else none
      else
       bif Nat.beq pc 44 then some (.if_icmp .ge 36, 3, [], .inl 0, []) else none
     else
      bif Nat.ble 43 pc then
       bif Nat.beq pc 43 then some (.arraylength, 1, [], .inl 0, []) else none
      else
       bif Nat.beq pc 42 then some (.aload_n 3, 1, [], .inl 0, []) else none
   else
    bif Nat.ble 36 pc then
     bif Nat.ble 38 pc then
      bif Nat.ble 40 pc then
       bif Nat.beq pc 40 then some (.iload 4, 2, [], .inl 0, []) else none
      else
       bif Nat.beq pc 38 then some (.istore 4, 2, [], .inl 0, []) else none
     else
      bif Nat.ble 37 pc then
       bif Nat.beq pc 37 then some (.iconst 0, 1, [], .inl (0), []) else none
      else
       bif Nat.beq pc 36 then some (.astore_n 3, 1, [], .inl 0, []) else none
    else
     bif Nat.ble 30 pc then
      bif Nat.ble 33 pc then
       bif Nat.beq pc 33 then some (.anewarray 310, 3, [24], .inl 0, []) else none
      else
       bif Nat.beq pc 30 then some (.invokevirtual 52, 3, [14, 1, 1, 1, 0], .inl 0, []) else none
     else
      bif Nat.beq pc 27 then some (.getfield 135, 3, [9, 576, 2], .inl 0, []) else none
  else
   bif Nat.ble 13 pc then
    bif Nat.ble 20 pc then
     bif Nat.ble 25 pc then
      bif Nat.ble 26 pc then
       bif Nat.beq pc 26 then some (.aload_n 2, 1, [], .inl 0, []) else none
      else
       bif Nat.beq pc 25 then some (.return_, 1, [], .inl 0, []) else none
     else
      bif Nat.ble 22 pc then
       bif Nat.beq pc 22 then some (.if_icmp .lt 4, 3, [], .inl 0, []) else none
      else
       bif Nat.beq pc 20 then some (.bipush 64, 2, [], .inl (64), []) else none
    else
     bif Nat.ble 14 pc then
      bif Nat.ble 17 pc then
       bif Nat.beq pc 17 then some (.invokevirtual 52, 3, [14, 1, 1, 1, 0], .inl 0, []) else none
      else
       bif Nat.beq pc 14 then some (.getfield 42, 3, [11, 719, 2], .inl 0, []) else none
     else
      bif Nat.beq pc 13 then some (.aload_n 0, 1, [], .inl 0, []) else none
   else
    bif Nat.ble 5 pc then
     bif Nat.ble 9 pc then
      bif Nat.ble 10 pc then
       bif Nat.beq pc 10 then some (.ifnull 15, 3, [], .inl 0, []) else none
      else
       bif Nat.beq pc 9 then some (.aload_n 2, 1, [], .inl 0, []) else none
     else
      bif Nat.ble 8 pc then
       bif Nat.beq pc 8 then some (.astore_n 2, 1, [], .inl 0, []) else none
      else
       bif Nat.beq pc 5 then some (.invokevirtual 124, 3, [108, 2, 3, 2, 11], .inl 0, []) else none
    else
     bif Nat.ble 1 pc then
      bif Nat.ble 2 pc then
       bif Nat.beq pc 2 then some (.getfield 253, 3, [7, 448, 0], .inl 0, []) else none
      else
       bif Nat.beq pc 1 then some (.aload_n 1, 1, [], .inl 0, []) else none
     else
      bif Nat.beq pc 0 then some (.aload_n 0, 1, [], .inl 0, []) else none
def kX11_keptPart (pc : Nat) : Option Ent := bif Nat.ble 133 pc then none else
 bif Nat.ble 78 pc then
  bif Nat.ble 104 pc then
   bif Nat.ble 119 pc then
    bif Nat.ble 125 pc then
     bif Nat.ble 129 pc then
      bif Nat.ble 132 pc then
       bif Nat.beq pc 132 then some (.areturn, 1, [], .inl 0, []) else none
      else
       bif Nat.beq pc 129 then some (.invokespecial 466, 3, [54, 4, 0, 5, 5], .inl 0, []) else none
     else
      bif Nat.ble 126 pc then
       bif Nat.beq pc 126 then some (.getstatic 476, 3, [2], .inl 0, []) else none
      else
       bif Nat.beq pc 125 then some (.lload_n 2, 1, [], .inl 0, []) else none
    else
     bif Nat.ble 123 pc then
      bif Nat.ble 124 pc then
       bif Nat.beq pc 124 then some (.aload_n 1, 1, [], .inl 0, []) else none
      else
       bif Nat.beq pc 123 then some (.dup, 1, [], .inl 0, []) else none
     else
      bif Nat.ble 120 pc then
       bif Nat.beq pc 120 then some (.new 310, 3, [5, 6], .inl 0, []) else none
      else
       bif Nat.beq pc 119 then some (.areturn, 1, [], .inl 0, []) else none
   else
    bif Nat.ble 109 pc then
     bif Nat.ble 113 pc then
      bif Nat.ble 116 pc then
       bif Nat.beq pc 116 then some (.invokespecial 466, 3, [54, 4, 0, 5, 5], .inl 0, []) else none
      else
       bif Nat.beq pc 113 then some (.getstatic 476, 3, [2], .inl 0, []) else none
     else
      bif Nat.ble 112 pc then
       bif Nat.beq pc 112 then some (.i2l, 1, [], .inl 0, []) else none
      else
       bif Nat.beq pc 109 then some (.invokestatic 473, 3, [144, 1, 1, 1, 100], .inl 0, []) else none
    else
     bif Nat.ble 105 pc then
      bif Nat.ble 106 pc then
       bif Nat.beq pc 106 then some (.invokevirtual 245, 3, [111, 2, 3, 3, 11], .inl 0, []) else none
      else
       bif Nat.beq pc 105 then some (.lload_n 2, 1, [], .inl 0, []) else none
     else
      bif Nat.beq pc 104 then some (.aload_n 0, 1, [], .inl 0, []) else none
  else
   bif Nat.ble 91 pc then
    bif Nat.ble 98 pc then
     bif Nat.ble 102 pc then
      bif Nat.ble 103 pc then
       bif Nat.beq pc 103 then some (.aload_n 1, 1, [], .inl 0, []) else none
      else
       bif Nat.beq pc 102 then some (.dup, 1, [], .inl 0, []) else none
     else
      bif Nat.ble 99 pc then
       bif Nat.beq pc 99 then some (.new 310, 3, [5, 6], .inl 0, []) else none
      else
       bif Nat.beq pc 98 then some (.areturn, 1, [], .inl 0, []) else none
    else
     bif Nat.ble 92 pc then
      bif Nat.ble 95 pc then
       bif Nat.beq pc 95 then some (.invokestatic 469, 3, [143, 2, 3, 2, 100], .inl 0, []) else none
      else
       bif Nat.beq pc 92 then some (.invokevirtual 212, 3, [110, 2, 3, 3, 11], .inl 0, []) else none
     else
      bif Nat.beq pc 91 then some (.lload_n 2, 1, [], .inl 0, []) else none
   else
    bif Nat.ble 85 pc then
     bif Nat.ble 89 pc then
      bif Nat.ble 90 pc then
       bif Nat.beq pc 90 then some (.aload_n 0, 1, [], .inl 0, []) else none
      else
       bif Nat.beq pc 89 then some (.aload_n 1, 1, [], .inl 0, []) else none
     else
      bif Nat.ble 88 pc then
       bif Nat.beq pc 88 then some (.areturn, 1, [], .inl 0, []) else none
      else
       bif Nat.beq pc 85 then some (.invokespecial 466, 3, [54, 4, 0, 5, 5], .inl 0, []) else none
    else
     bif Nat.ble 81 pc then
      bif Nat.ble 82 pc then
       bif Nat.beq pc 82 then some (.invokevirtual 462, 3, [145, 3, 3, 8, 11], .inl 0, []) else none
      else
       bif Nat.beq pc 81 then some (.lload_n 2, 1, [], .inl 0, []) else none
     else
      bif Nat.beq pc 78 then some (.getfield 349, 3, [8, 514, 0], .inl 0, []) else none
 else
  bif Nat.ble 55 pc then
   bif Nat.ble 66 pc then
    bif Nat.ble 74 pc then
     bif Nat.ble 76 pc then
      bif Nat.ble 77 pc then
       bif Nat.beq pc 77 then some (.aload_n 1, 1, [], .inl 0, []) else none
      else
       bif Nat.beq pc 76 then some (.aload_n 0, 1, [], .inl 0, []) else none
     else
      bif Nat.ble 75 pc then
       bif Nat.beq pc 75 then some (.lconst 0, 1, [], .inr (.inl (0)), []) else none
      else
       bif Nat.beq pc 74 then some (.aload_n 1, 1, [], .inl 0, []) else none
    else
     bif Nat.ble 70 pc then
      bif Nat.ble 73 pc then
       bif Nat.beq pc 73 then some (.dup, 1, [], .inl 0, []) else none
      else
       bif Nat.beq pc 70 then some (.new 310, 3, [5, 6], .inl 0, []) else none
     else
      bif Nat.ble 69 pc then
       bif Nat.beq pc 69 then some (.areturn, 1, [], .inl 0, []) else none
      else
       bif Nat.beq pc 66 then some (.invokespecial 466, 3, [54, 4, 0, 5, 5], .inl 0, []) else none
   else
    bif Nat.ble 60 pc then
     bif Nat.ble 62 pc then
      bif Nat.ble 63 pc then
       bif Nat.beq pc 63 then some (.invokevirtual 462, 3, [145, 3, 3, 8, 11], .inl 0, []) else none
      else
       bif Nat.beq pc 62 then some (.lshl, 1, [], .inl 0, []) else none
     else
      bif Nat.ble 61 pc then
       bif Nat.beq pc 61 then some (.l2i, 1, [], .inl 0, []) else none
      else
       bif Nat.beq pc 60 then some (.lload_n 2, 1, [], .inl 0, []) else none
    else
     bif Nat.ble 56 pc then
      bif Nat.ble 59 pc then
       bif Nat.beq pc 59 then some (.lconst 1, 1, [], .inr (.inl (1)), []) else none
      else
       bif Nat.beq pc 56 then some (.goto 7, 3, [], .inl 0, []) else none
     else
      bif Nat.beq pc 55 then some (.lconst 0, 1, [], .inr (.inl (0)), []) else none
  else
   bif Nat.ble 42 pc then
    bif Nat.ble 47 pc then
     bif Nat.ble 51 pc then
      bif Nat.ble 52 pc then
       bif Nat.beq pc 52 then some (.ifCond .ne 7, 3, [], .inl 0, []) else none
      else
       bif Nat.beq pc 51 then some (.lcmp, 1, [], .inl 0, []) else none
     else
      bif Nat.ble 48 pc then
       bif Nat.beq pc 48 then some (.ldc2_w 347, 3, [], .inr (.inl (-1)), []) else none
      else
       bif Nat.beq pc 47 then some (.lload_n 2, 1, [], .inl 0, []) else none
    else
     bif Nat.ble 43 pc then
      bif Nat.ble 44 pc then
       bif Nat.beq pc 44 then some (.getfield 349, 3, [8, 514, 0], .inl 0, []) else none
      else
       bif Nat.beq pc 43 then some (.aload_n 1, 1, [], .inl 0, []) else none
     else
      bif Nat.beq pc 42 then some (.aload_n 0, 1, [], .inl 0, []) else none
   else
    bif Nat.ble 36 pc then
     bif Nat.ble 40 pc then
      bif Nat.ble 41 pc then
       bif Nat.beq pc 41 then some (.lconst 0, 1, [], .inr (.inl (0)), []) else none
      else
       bif Nat.beq pc 40 then some (.aload_n 1, 1, [], .inl 0, []) else none
     else
      bif Nat.ble 39 pc then
       bif Nat.beq pc 39 then some (.dup, 1, [], .inl 0, []) else none
      else
       bif Nat.beq pc 36 then some (.new 310, 3, [5, 6], .inl 0, []) else none
    else
     bif Nat.ble 1 pc then
      bif Nat.ble 4 pc then
       bif Nat.beq pc 4 then some (.tableswitch 116 8 11 #[32, 66, 85, 95], 32, [], .inl 0, []) else none
      else
       bif Nat.beq pc 1 then some (.getfield 158, 3, [8, 513, 0], .inl 0, []) else none
     else
      bif Nat.beq pc 0 then some (.aload_n 1, 1, [], .inl 0, []) else none
def kX11_keptRow (pc : Nat) : Option Ent := bif Nat.ble 40 pc then none else
 bif Nat.ble 22 pc then
  bif Nat.ble 29 pc then
   bif Nat.ble 33 pc then
    bif Nat.ble 36 pc then
     bif Nat.ble 39 pc then
      bif Nat.beq pc 39 then some (.areturn, 1, [], .inl 0, []) else none
     else
      bif Nat.beq pc 36 then some (.invokespecial 466, 3, [54, 4, 0, 5, 5], .inl 0, []) else none
    else
     bif Nat.beq pc 33 then some (.invokestatic 479, 3, [25, 2, 3, 3, 100], .inl 0, []) else none
   else
    bif Nat.ble 30 pc then
     bif Nat.beq pc 30 then some (.getfield 231, 3, [10, 641, 0], .inl 0, []) else none
    else
     bif Nat.beq pc 29 then some (.aload_n 1, 1, [], .inl 0, []) else none
  else
   bif Nat.ble 24 pc then
    bif Nat.ble 25 pc then
     bif Nat.ble 26 pc then
      bif Nat.beq pc 26 then some (.getfield 221, 3, [10, 642, 2], .inl 0, []) else none
     else
      bif Nat.beq pc 25 then some (.aload_n 1, 1, [], .inl 0, []) else none
    else
     bif Nat.beq pc 24 then some (.lconst 0, 1, [], .inr (.inl (0)), []) else none
   else
    bif Nat.ble 23 pc then
     bif Nat.beq pc 23 then some (.aload_n 0, 1, [], .inl 0, []) else none
    else
     bif Nat.beq pc 22 then some (.dup, 1, [], .inl 0, []) else none
 else
  bif Nat.ble 9 pc then
   bif Nat.ble 15 pc then
    bif Nat.ble 18 pc then
     bif Nat.ble 19 pc then
      bif Nat.beq pc 19 then some (.new 310, 3, [5, 6], .inl 0, []) else none
     else
      bif Nat.beq pc 18 then some (.areturn, 1, [], .inl 0, []) else none
    else
     bif Nat.beq pc 15 then some (.invokespecial 466, 3, [54, 4, 0, 5, 5], .inl 0, []) else none
   else
    bif Nat.ble 12 pc then
     bif Nat.beq pc 12 then some (.getstatic 476, 3, [2], .inl 0, []) else none
    else
     bif Nat.beq pc 9 then some (.ldc2_w 347, 3, [], .inr (.inl (-1)), []) else none
  else
   bif Nat.ble 4 pc then
    bif Nat.ble 7 pc then
     bif Nat.ble 8 pc then
      bif Nat.beq pc 8 then some (.aload_n 0, 1, [], .inl 0, []) else none
     else
      bif Nat.beq pc 7 then some (.dup, 1, [], .inl 0, []) else none
    else
     bif Nat.beq pc 4 then some (.new 310, 3, [5, 6], .inl 0, []) else none
   else
    bif Nat.ble 1 pc then
     bif Nat.beq pc 1 then some (.ifnonnull 18, 3, [], .inl 0, []) else none
    else
     bif Nat.beq pc 0 then some (.aload_n 1, 1, [], .inl 0, []) else none
def kX11_lineOf (pc : Nat) : Option Ent := bif Nat.ble 13 pc then none else
 bif Nat.ble 5 pc then
  bif Nat.ble 9 pc then
   bif Nat.ble 12 pc then
    bif Nat.beq pc 12 then some (.ireturn, 1, [], .inl 0, []) else none
   else
    bif Nat.beq pc 9 then some (.getfield 282, 3, [7, 451, 0], .inl 0, []) else none
  else
   bif Nat.ble 8 pc then
    bif Nat.beq pc 8 then some (.aload_n 0, 1, [], .inl 0, []) else none
   else
    bif Nat.beq pc 5 then some (.goto 7, 3, [], .inl 0, []) else none
 else
  bif Nat.ble 1 pc then
   bif Nat.ble 4 pc then
    bif Nat.beq pc 4 then some (.iconst (-1), 1, [], .inl (-1), []) else none
   else
    bif Nat.beq pc 1 then some (.ifnonnull 7, 3, [], .inl 0, []) else none
  else
   bif Nat.beq pc 0 then some (.aload_n 0, 1, [], .inl 0, []) else none
def kX11_namesOf (pc : Nat) : Option Ent := bif Nat.ble 91 pc then none else
 bif Nat.ble 43 pc then
  bif Nat.ble 62 pc then
   bif Nat.ble 78 pc then
    bif Nat.ble 85 pc then
     bif Nat.ble 88 pc then
      bif Nat.ble 90 pc then
       bif Nat.beq pc 90 then some (.areturn, 1, [], .inl 0, []) else none
      else
       bif Nat.beq pc 88 then some (.aload 5, 2, [], .inl 0, []) else none
     else
      bif Nat.beq pc 85 then some (.goto (-64), 3, [], .inl 0, []) else none
    else
     bif Nat.ble 81 pc then
      bif Nat.ble 82 pc then
       bif Nat.beq pc 82 then some (.iinc 7 1, 3, [], .inl (1), []) else none
      else
       bif Nat.beq pc 81 then some (.lastore, 1, [], .inl 0, []) else none
     else
      bif Nat.beq pc 78 then some (.getfield 488, 3, [2, 128, 1], .inl 0, []) else none
   else
    bif Nat.ble 70 pc then
     bif Nat.ble 72 pc then
      bif Nat.ble 75 pc then
       bif Nat.beq pc 75 then some (.checkcast 80, 3, [2], .inl 0, []) else none
      else
       bif Nat.beq pc 72 then some (.invokevirtual 190, 3, [16, 2, 3, 2, 0], .inl 0, []) else none
     else
      bif Nat.beq pc 70 then some (.iload 7, 2, [], .inl 0, []) else none
    else
     bif Nat.ble 65 pc then
      bif Nat.ble 67 pc then
       bif Nat.beq pc 67 then some (.getfield 77, 3, [3, 192, 2], .inl 0, []) else none
      else
       bif Nat.beq pc 65 then some (.aload 4, 2, [], .inl 0, []) else none
     else
      bif Nat.beq pc 62 then some (.iinc 6 1, 3, [], .inl (1), []) else none
  else
   bif Nat.ble 50 pc then
    bif Nat.ble 55 pc then
     bif Nat.ble 58 pc then
      bif Nat.ble 60 pc then
       bif Nat.beq pc 60 then some (.iload 6, 2, [], .inl 0, []) else none
      else
       bif Nat.beq pc 58 then some (.aload 5, 2, [], .inl 0, []) else none
     else
      bif Nat.beq pc 55 then some (.if_icmp .ge 27, 3, [], .inl 0, []) else none
    else
     bif Nat.ble 52 pc then
      bif Nat.ble 54 pc then
       bif Nat.beq pc 54 then some (.arraylength, 1, [], .inl 0, []) else none
      else
       bif Nat.beq pc 52 then some (.aload 5, 2, [], .inl 0, []) else none
     else
      bif Nat.beq pc 50 then some (.iload 6, 2, [], .inl 0, []) else none
   else
    bif Nat.ble 45 pc then
     bif Nat.ble 46 pc then
      bif Nat.ble 47 pc then
       bif Nat.beq pc 47 then some (.ifCond .eq 35, 3, [], .inl 0, []) else none
      else
       bif Nat.beq pc 46 then some (.lcmp, 1, [], .inl 0, []) else none
     else
      bif Nat.beq pc 45 then some (.lconst 0, 1, [], .inr (.inl (0)), []) else none
    else
     bif Nat.ble 44 pc then
      bif Nat.beq pc 44 then some (.land, 1, [], .inl 0, []) else none
     else
      bif Nat.beq pc 43 then some (.lconst 1, 1, [], .inr (.inl (1)), []) else none
 else
  bif Nat.ble 19 pc then
   bif Nat.ble 30 pc then
    bif Nat.ble 39 pc then
     bif Nat.ble 40 pc then
      bif Nat.ble 42 pc then
       bif Nat.beq pc 42 then some (.lshr, 1, [], .inl 0, []) else none
      else
       bif Nat.beq pc 40 then some (.iload 7, 2, [], .inl 0, []) else none
     else
      bif Nat.beq pc 39 then some (.lload_n 2, 1, [], .inl 0, []) else none
    else
     bif Nat.ble 33 pc then
      bif Nat.ble 36 pc then
       bif Nat.beq pc 36 then some (.if_icmp .ge 52, 3, [], .inl 0, []) else none
      else
       bif Nat.beq pc 33 then some (.invokevirtual 52, 3, [14, 1, 1, 1, 0], .inl 0, []) else none
     else
      bif Nat.beq pc 30 then some (.getfield 77, 3, [3, 192, 2], .inl 0, []) else none
   else
    bif Nat.ble 23 pc then
     bif Nat.ble 26 pc then
      bif Nat.ble 28 pc then
       bif Nat.beq pc 28 then some (.aload 4, 2, [], .inl 0, []) else none
      else
       bif Nat.beq pc 26 then some (.iload 7, 2, [], .inl 0, []) else none
     else
      bif Nat.beq pc 23 then some (.ifnull 65, 3, [], .inl 0, []) else none
    else
     bif Nat.ble 21 pc then
      bif Nat.beq pc 21 then some (.aload 4, 2, [], .inl 0, [0, 1, 3]) else none
     else
      bif Nat.beq pc 19 then some (.istore 7, 2, [], .inl 0, []) else none
  else
   bif Nat.ble 8 pc then
    bif Nat.ble 15 pc then
     bif Nat.ble 16 pc then
      bif Nat.ble 18 pc then
       bif Nat.beq pc 18 then some (.iconst 0, 1, [], .inl (0), []) else none
      else
       bif Nat.beq pc 16 then some (.istore 6, 2, [], .inl 0, []) else none
     else
      bif Nat.beq pc 15 then some (.iconst 0, 1, [], .inl (0), []) else none
    else
     bif Nat.ble 11 pc then
      bif Nat.ble 13 pc then
       bif Nat.beq pc 13 then some (.astore 5, 2, [], .inl 0, []) else none
      else
       bif Nat.beq pc 11 then some (.newarray .long, 2, [21], .inl 0, []) else none
     else
      bif Nat.beq pc 8 then some (.invokestatic 485, 3, [6, 1, 1, 2, 100], .inl 0, []) else none
   else
    bif Nat.ble 2 pc then
     bif Nat.ble 5 pc then
      bif Nat.ble 7 pc then
       bif Nat.beq pc 7 then some (.lload_n 2, 1, [], .inl 0, []) else none
      else
       bif Nat.beq pc 5 then some (.astore 4, 2, [], .inl 0, []) else none
     else
      bif Nat.beq pc 2 then some (.invokevirtual 63, 3, [107, 2, 3, 2, 11], .inl 0, []) else none
    else
     bif Nat.ble 1 pc then
      bif Nat.beq pc 1 then some (.iload_n 1, 1, [], .inl 0, []) else none
     else
      bif Nat.beq pc 0 then some (.aload_n 0, 1, [], .inl 0, []) else none
def kX11_loadInOrder (pc : Nat) : Option Ent := bif Nat.ble 241 pc then none else
 bif Nat.ble 114 pc then
  bif Nat.ble 174 pc then
   bif Nat.ble 205 pc then
    bif Nat.ble 223 pc then
     bif Nat.ble 231 pc then
      bif Nat.ble 237 pc then
       bif Nat.ble 240 pc then
        bif Nat.beq pc 240 then some (.ireturn, 1, [], .inl 0, []) else none
       else
        bif Nat.beq pc 237 then some (.getfield 292, 3, [6, 389, 0], .inl 0, []) else none
      else
       bif Nat.ble 234 pc then
        bif Nat.beq pc 234 then some (.checkcast 199, 3, [6], .inl 0, []) else none
       else
        bif Nat.beq pc 231 then some (.invokevirtual 190, 3, [16, 2, 3, 2, 0], .inl 0, []) else none
     else
      bif Nat.ble 227 pc then
       bif Nat.ble 230 pc then
        bif Nat.beq pc 230 then some (.iload_n 1, 1, [], .inl 0, []) else none
       else
        bif Nat.beq pc 227 then some (.getfield 42, 3, [11, 719, 2], .inl 0, []) else none
      else
       bif Nat.ble 226 pc then
        bif Nat.beq pc 226 then some (.aload_n 0, 1, [], .inl 0, []) else none
       else
        bif Nat.beq pc 223 then some (.goto (-192), 3, [], .inl 0, []) else none
    else
     bif Nat.ble 212 pc then
      bif Nat.ble 217 pc then
       bif Nat.ble 220 pc then
        bif Nat.beq pc 220 then some (.iinc 4 1, 3, [], .inl (1), []) else none
       else
        bif Nat.beq pc 217 then some (.iinc 2 (-1), 3, [], .inl (-1), []) else none
      else
       bif Nat.ble 214 pc then
        bif Nat.beq pc 214 then some (.putfield 292, 3, [6, 389, 0], .inl 0, []) else none
       else
        bif Nat.beq pc 212 then some (.iload 10, 2, [], .inl 0, []) else none
     else
      bif Nat.ble 207 pc then
       bif Nat.ble 210 pc then
        bif Nat.beq pc 210 then some (.aload 6, 2, [], .inl 0, []) else none
       else
        bif Nat.beq pc 207 then some (.ifnonnull 13, 3, [], .inl 0, []) else none
      else
       bif Nat.beq pc 205 then some (.aload 8, 2, [], .inl 0, []) else none
   else
    bif Nat.ble 190 pc then
     bif Nat.ble 197 pc then
      bif Nat.ble 202 pc then
       bif Nat.ble 204 pc then
        bif Nat.beq pc 204 then some (.ireturn, 1, [], .inl 0, []) else none
       else
        bif Nat.beq pc 202 then some (.iload 10, 2, [], .inl 0, []) else none
      else
       bif Nat.ble 199 pc then
        bif Nat.beq pc 199 then some (.ifCond .ge 6, 3, [], .inl 0, []) else none
       else
        bif Nat.beq pc 197 then some (.iload 10, 2, [], .inl 0, []) else none
     else
      bif Nat.ble 192 pc then
       bif Nat.ble 195 pc then
        bif Nat.beq pc 195 then some (.istore 10, 2, [], .inl 0, []) else none
       else
        bif Nat.beq pc 192 then some (.invokevirtual 497, 3, [148, 4, 1, 7, 11], .inl 0, []) else none
      else
       bif Nat.beq pc 190 then some (.aload 8, 2, [], .inl 0, []) else none
    else
     bif Nat.ble 182 pc then
      bif Nat.ble 186 pc then
       bif Nat.ble 188 pc then
        bif Nat.beq pc 188 then some (.aload 6, 2, [], .inl 0, []) else none
       else
        bif Nat.beq pc 186 then some (.iload 5, 2, [], .inl 0, []) else none
      else
       bif Nat.ble 185 pc then
        bif Nat.beq pc 185 then some (.aload_n 0, 1, [], .inl 0, []) else none
       else
        bif Nat.beq pc 182 then some (.goto 13, 3, [], .inl 0, []) else none
     else
      bif Nat.ble 177 pc then
       bif Nat.ble 179 pc then
        bif Nat.beq pc 179 then some (.invokevirtual 238, 3, [126, 4, 1, 9, 11], .inl 0, []) else none
       else
        bif Nat.beq pc 177 then some (.iload 5, 2, [], .inl 0, []) else none
      else
       bif Nat.beq pc 174 then some (.getfield 496, 3, [6, 387, 2], .inl 0, []) else none
  else
   bif Nat.ble 143 pc then
    bif Nat.ble 157 pc then
     bif Nat.ble 166 pc then
      bif Nat.ble 169 pc then
       bif Nat.ble 172 pc then
        bif Nat.beq pc 172 then some (.aload 6, 2, [], .inl 0, []) else none
       else
        bif Nat.beq pc 169 then some (.getfield 298, 3, [6, 384, 0], .inl 0, []) else none
      else
       bif Nat.ble 167 pc then
        bif Nat.beq pc 167 then some (.aload 6, 2, [], .inl 0, []) else none
       else
        bif Nat.beq pc 166 then some (.aload_n 0, 1, [], .inl 0, []) else none
     else
      bif Nat.ble 161 pc then
       bif Nat.ble 163 pc then
        bif Nat.beq pc 163 then some (.ifnonnull 22, 3, [], .inl 0, []) else none
       else
        bif Nat.beq pc 161 then some (.aload 8, 2, [], .inl 0, []) else none
      else
       bif Nat.ble 158 pc then
        bif Nat.beq pc 158 then some (.goto 62, 3, [], .inl 0, []) else none
       else
        bif Nat.beq pc 157 then some (.iastore, 1, [], .inl 0, []) else none
    else
     bif Nat.ble 148 pc then
      bif Nat.ble 152 pc then
       bif Nat.ble 155 pc then
        bif Nat.beq pc 155 then some (.iload 9, 2, [], .inl 0, []) else none
       else
        bif Nat.beq pc 152 then some (.iinc 2 1, 3, [], .inl (1), []) else none
      else
       bif Nat.ble 151 pc then
        bif Nat.beq pc 151 then some (.iload_n 2, 1, [], .inl 0, []) else none
       else
        bif Nat.beq pc 148 then some (.getfield 45, 3, [11, 720, 2], .inl 0, []) else none
     else
      bif Nat.ble 144 pc then
       bif Nat.ble 147 pc then
        bif Nat.beq pc 147 then some (.aload_n 0, 1, [], .inl 0, []) else none
       else
        bif Nat.beq pc 144 then some (.putfield 489, 3, [6, 388, 0], .inl 0, []) else none
      else
       bif Nat.beq pc 143 then some (.iconst 0, 1, [], .inl (0), []) else none
   else
    bif Nat.ble 127 pc then
     bif Nat.ble 132 pc then
      bif Nat.ble 137 pc then
       bif Nat.ble 140 pc then
        bif Nat.beq pc 140 then some (.checkcast 199, 3, [6], .inl 0, []) else none
       else
        bif Nat.beq pc 137 then some (.invokevirtual 190, 3, [16, 2, 3, 2, 0], .inl 0, []) else none
      else
       bif Nat.ble 135 pc then
        bif Nat.beq pc 135 then some (.iload 9, 2, [], .inl 0, []) else none
       else
        bif Nat.beq pc 132 then some (.getfield 42, 3, [11, 719, 2], .inl 0, []) else none
     else
      bif Nat.ble 128 pc then
       bif Nat.ble 131 pc then
        bif Nat.beq pc 131 then some (.aload_n 0, 1, [], .inl 0, []) else none
       else
        bif Nat.beq pc 128 then some (.if_icmp .ge 33, 3, [], .inl 0, []) else none
      else
       bif Nat.beq pc 127 then some (.arraylength, 1, [], .inl 0, []) else none
    else
     bif Nat.ble 119 pc then
      bif Nat.ble 123 pc then
       bif Nat.ble 124 pc then
        bif Nat.beq pc 124 then some (.getfield 45, 3, [11, 720, 2], .inl 0, []) else none
       else
        bif Nat.beq pc 123 then some (.aload_n 0, 1, [], .inl 0, []) else none
      else
       bif Nat.ble 122 pc then
        bif Nat.beq pc 122 then some (.iload_n 2, 1, [], .inl 0, []) else none
       else
        bif Nat.beq pc 119 then some (.if_icmp .eq 42, 3, [], .inl 0, []) else none
     else
      bif Nat.ble 116 pc then
       bif Nat.ble 118 pc then
        bif Nat.beq pc 118 then some (.iconst (-1), 1, [], .inl (-1), []) else none
       else
        bif Nat.beq pc 116 then some (.iload 9, 2, [], .inl 0, []) else none
      else
       bif Nat.beq pc 114 then some (.istore 9, 2, [], .inl 0, []) else none
 else
  bif Nat.ble 49 pc then
   bif Nat.ble 81 pc then
    bif Nat.ble 97 pc then
     bif Nat.ble 106 pc then
      bif Nat.ble 109 pc then
       bif Nat.ble 111 pc then
        bif Nat.beq pc 111 then some (.invokevirtual 492, 3, [147, 3, 1, 5, 11], .inl 0, []) else none
       else
        bif Nat.beq pc 109 then some (.aload 8, 2, [], .inl 0, []) else none
      else
       bif Nat.ble 107 pc then
        bif Nat.beq pc 107 then some (.aload 6, 2, [], .inl 0, []) else none
       else
        bif Nat.beq pc 106 then some (.aload_n 0, 1, [], .inl 0, []) else none
     else
      bif Nat.ble 102 pc then
       bif Nat.ble 103 pc then
        bif Nat.beq pc 103 then some (.goto 11, 3, [], .inl 0, []) else none
       else
        bif Nat.beq pc 102 then some (.iconst (-1), 1, [], .inl (-1), []) else none
      else
       bif Nat.ble 99 pc then
        bif Nat.beq pc 99 then some (.ifnonnull 7, 3, [], .inl 0, []) else none
       else
        bif Nat.beq pc 97 then some (.aload 8, 2, [], .inl 0, []) else none
    else
     bif Nat.ble 87 pc then
      bif Nat.ble 92 pc then
       bif Nat.ble 95 pc then
        bif Nat.beq pc 95 then some (.astore 8, 2, [], .inl 0, []) else none
       else
        bif Nat.beq pc 92 then some (.invokevirtual 143, 3, [65, 2, 3, 2, 9], .inl 0, []) else none
      else
       bif Nat.ble 89 pc then
        bif Nat.beq pc 89 then some (.getfield 489, 3, [6, 388, 0], .inl 0, []) else none
       else
        bif Nat.beq pc 87 then some (.aload 6, 2, [], .inl 0, []) else none
     else
      bif Nat.ble 82 pc then
       bif Nat.ble 85 pc then
        bif Nat.beq pc 85 then some (.aload 7, 2, [], .inl 0, []) else none
       else
        bif Nat.beq pc 82 then some (.goto 13, 3, [], .inl 0, []) else none
      else
       bif Nat.beq pc 81 then some (.aconst_null, 1, [], .inl 0, []) else none
   else
    bif Nat.ble 65 pc then
     bif Nat.ble 71 pc then
      bif Nat.ble 76 pc then
       bif Nat.ble 78 pc then
        bif Nat.beq pc 78 then some (.ifnonnull 7, 3, [], .inl 0, []) else none
       else
        bif Nat.beq pc 76 then some (.aload 7, 2, [], .inl 0, []) else none
      else
       bif Nat.ble 74 pc then
        bif Nat.beq pc 74 then some (.astore 7, 2, [], .inl 0, []) else none
       else
        bif Nat.beq pc 71 then some (.invokevirtual 124, 3, [108, 2, 3, 2, 11], .inl 0, []) else none
     else
      bif Nat.ble 66 pc then
       bif Nat.ble 68 pc then
        bif Nat.beq pc 68 then some (.getfield 298, 3, [6, 384, 0], .inl 0, []) else none
       else
        bif Nat.beq pc 66 then some (.aload 6, 2, [], .inl 0, []) else none
      else
       bif Nat.beq pc 65 then some (.aload_n 0, 1, [], .inl 0, []) else none
    else
     bif Nat.ble 55 pc then
      bif Nat.ble 60 pc then
       bif Nat.ble 63 pc then
        bif Nat.beq pc 63 then some (.astore 6, 2, [], .inl 0, []) else none
       else
        bif Nat.beq pc 60 then some (.checkcast 199, 3, [6], .inl 0, []) else none
      else
       bif Nat.ble 57 pc then
        bif Nat.beq pc 57 then some (.invokevirtual 190, 3, [16, 2, 3, 2, 0], .inl 0, []) else none
       else
        bif Nat.beq pc 55 then some (.iload 5, 2, [], .inl 0, []) else none
     else
      bif Nat.ble 51 pc then
       bif Nat.ble 52 pc then
        bif Nat.beq pc 52 then some (.getfield 42, 3, [11, 719, 2], .inl 0, []) else none
       else
        bif Nat.beq pc 51 then some (.aload_n 0, 1, [], .inl 0, []) else none
      else
       bif Nat.beq pc 49 then some (.istore 5, 2, [], .inl 0, []) else none
  else
   bif Nat.ble 24 pc then
    bif Nat.ble 37 pc then
     bif Nat.ble 45 pc then
      bif Nat.ble 47 pc then
       bif Nat.ble 48 pc then
        bif Nat.beq pc 48 then some (.iaload, 1, [], .inl 0, []) else none
       else
        bif Nat.beq pc 47 then some (.isub, 1, [], .inl 0, []) else none
      else
       bif Nat.ble 46 pc then
        bif Nat.beq pc 46 then some (.iconst 1, 1, [], .inl (1), []) else none
       else
        bif Nat.beq pc 45 then some (.iload_n 2, 1, [], .inl 0, []) else none
     else
      bif Nat.ble 41 pc then
       bif Nat.ble 42 pc then
        bif Nat.beq pc 42 then some (.getfield 45, 3, [11, 720, 2], .inl 0, []) else none
       else
        bif Nat.beq pc 41 then some (.aload_n 0, 1, [], .inl 0, []) else none
      else
       bif Nat.ble 38 pc then
        bif Nat.beq pc 38 then some (.ifCond .le 188, 3, [], .inl 0, []) else none
       else
        bif Nat.beq pc 37 then some (.iload_n 2, 1, [], .inl 0, []) else none
    else
     bif Nat.ble 29 pc then
      bif Nat.ble 33 pc then
       bif Nat.ble 34 pc then
        bif Nat.beq pc 34 then some (.if_icmp .ge 192, 3, [], .inl 0, []) else none
       else
        bif Nat.beq pc 33 then some (.iload_n 3, 1, [], .inl 0, []) else none
      else
       bif Nat.ble 31 pc then
        bif Nat.beq pc 31 then some (.iload 4, 2, [], .inl 0, [5, 6, 7, 8, 9, 10]) else none
       else
        bif Nat.beq pc 29 then some (.istore 4, 2, [], .inl 0, []) else none
     else
      bif Nat.ble 27 pc then
       bif Nat.ble 28 pc then
        bif Nat.beq pc 28 then some (.iconst 0, 1, [], .inl (0), []) else none
       else
        bif Nat.beq pc 27 then some (.istore_n 3, 1, [], .inl 0, []) else none
      else
       bif Nat.beq pc 24 then some (.sipush 512, 3, [], .inl (512), []) else none
   else
    bif Nat.ble 9 pc then
     bif Nat.ble 14 pc then
      bif Nat.ble 20 pc then
       bif Nat.ble 21 pc then
        bif Nat.beq pc 21 then some (.putfield 489, 3, [6, 388, 0], .inl 0, []) else none
       else
        bif Nat.beq pc 20 then some (.iconst 0, 1, [], .inl (0), []) else none
      else
       bif Nat.ble 17 pc then
        bif Nat.beq pc 17 then some (.checkcast 199, 3, [6], .inl 0, []) else none
       else
        bif Nat.beq pc 14 then some (.invokevirtual 190, 3, [16, 2, 3, 2, 0], .inl 0, []) else none
     else
      bif Nat.ble 10 pc then
       bif Nat.ble 13 pc then
        bif Nat.beq pc 13 then some (.iload_n 1, 1, [], .inl 0, []) else none
       else
        bif Nat.beq pc 10 then some (.getfield 42, 3, [11, 719, 2], .inl 0, []) else none
      else
       bif Nat.beq pc 9 then some (.aload_n 0, 1, [], .inl 0, []) else none
    else
     bif Nat.ble 3 pc then
      bif Nat.ble 7 pc then
       bif Nat.ble 8 pc then
        bif Nat.beq pc 8 then some (.iastore, 1, [], .inl 0, []) else none
       else
        bif Nat.beq pc 7 then some (.iload_n 1, 1, [], .inl 0, []) else none
      else
       bif Nat.ble 6 pc then
        bif Nat.beq pc 6 then some (.iconst 0, 1, [], .inl (0), []) else none
       else
        bif Nat.beq pc 3 then some (.getfield 45, 3, [11, 720, 2], .inl 0, []) else none
     else
      bif Nat.ble 1 pc then
       bif Nat.ble 2 pc then
        bif Nat.beq pc 2 then some (.aload_n 0, 1, [], .inl 0, []) else none
       else
        bif Nat.beq pc 1 then some (.istore_n 2, 1, [], .inl 0, []) else none
      else
       bif Nat.beq pc 0 then some (.iconst 1, 1, [], .inl (1), []) else none
def kX11_lineAhead (pc : Nat) : Option Ent := bif Nat.ble 67 pc then none else
 bif Nat.ble 33 pc then
  bif Nat.ble 50 pc then
   bif Nat.ble 58 pc then
    bif Nat.ble 62 pc then
     bif Nat.ble 65 pc then
      bif Nat.ble 66 pc then
       bif Nat.beq pc 66 then some (.ireturn, 1, [], .inl 0, []) else none
      else
       bif Nat.beq pc 65 then some (.l2i, 1, [], .inl 0, []) else none
     else
      bif Nat.beq pc 62 then some (.getfield 502, 3, [5, 323, 1], .inl 0, []) else none
    else
     bif Nat.ble 61 pc then
      bif Nat.beq pc 61 then some (.aload_n 3, 1, [], .inl 0, []) else none
     else
      bif Nat.beq pc 58 then some (.goto 8, 3, [], .inl 0, []) else none
   else
    bif Nat.ble 54 pc then
     bif Nat.ble 57 pc then
      bif Nat.beq pc 57 then some (.iconst (-1), 1, [], .inl (-1), []) else none
     else
      bif Nat.beq pc 54 then some (.if_icmp .eq 7, 3, [], .inl 0, []) else none
    else
     bif Nat.ble 53 pc then
      bif Nat.beq pc 53 then some (.iconst (-1), 1, [], .inl (-1), []) else none
     else
      bif Nat.beq pc 50 then some (.getfield 292, 3, [6, 389, 0], .inl 0, []) else none
  else
   bif Nat.ble 41 pc then
    bif Nat.ble 45 pc then
     bif Nat.ble 48 pc then
      bif Nat.beq pc 48 then some (.aload 4, 2, [], .inl 0, []) else none
     else
      bif Nat.beq pc 45 then some (.ifnull 12, 3, [], .inl 0, []) else none
    else
     bif Nat.ble 43 pc then
      bif Nat.beq pc 43 then some (.aload 4, 2, [], .inl 0, []) else none
     else
      bif Nat.beq pc 41 then some (.astore 4, 2, [], .inl 0, []) else none
   else
    bif Nat.ble 35 pc then
     bif Nat.ble 38 pc then
      bif Nat.beq pc 38 then some (.invokevirtual 288, 3, [112, 2, 3, 3, 11], .inl 0, []) else none
     else
      bif Nat.beq pc 35 then some (.getfield 502, 3, [5, 323, 1], .inl 0, []) else none
    else
     bif Nat.ble 34 pc then
      bif Nat.beq pc 34 then some (.aload_n 3, 1, [], .inl 0, []) else none
     else
      bif Nat.beq pc 33 then some (.aload_n 0, 1, [], .inl 0, []) else none
 else
  bif Nat.ble 14 pc then
   bif Nat.ble 23 pc then
    bif Nat.ble 28 pc then
     bif Nat.ble 31 pc then
      bif Nat.ble 32 pc then
       bif Nat.beq pc 32 then some (.ireturn, 1, [], .inl 0, []) else none
      else
       bif Nat.beq pc 31 then some (.iconst (-1), 1, [], .inl (-1), []) else none
     else
      bif Nat.beq pc 28 then some (.if_icmp .eq 5, 3, [], .inl 0, []) else none
    else
     bif Nat.ble 26 pc then
      bif Nat.beq pc 26 then some (.bipush 11, 2, [], .inl (11), []) else none
     else
      bif Nat.beq pc 23 then some (.getfield 158, 3, [8, 513, 0], .inl 0, []) else none
   else
    bif Nat.ble 19 pc then
     bif Nat.ble 22 pc then
      bif Nat.beq pc 22 then some (.aload_n 2, 1, [], .inl 0, []) else none
     else
      bif Nat.beq pc 19 then some (.if_icmp .ne 12, 3, [], .inl 0, []) else none
    else
     bif Nat.ble 17 pc then
      bif Nat.beq pc 17 then some (.bipush 11, 2, [], .inl (11), []) else none
     else
      bif Nat.beq pc 14 then some (.getfield 501, 3, [5, 321, 0], .inl 0, []) else none
  else
   bif Nat.ble 8 pc then
    bif Nat.ble 10 pc then
     bif Nat.ble 13 pc then
      bif Nat.beq pc 13 then some (.aload_n 3, 1, [], .inl 0, []) else none
     else
      bif Nat.beq pc 10 then some (.ifnull 21, 3, [], .inl 0, []) else none
    else
     bif Nat.ble 9 pc then
      bif Nat.beq pc 9 then some (.aload_n 3, 1, [], .inl 0, []) else none
     else
      bif Nat.beq pc 8 then some (.astore_n 3, 1, [], .inl 0, []) else none
   else
    bif Nat.ble 2 pc then
     bif Nat.ble 5 pc then
      bif Nat.beq pc 5 then some (.invokevirtual 305, 3, [60, 2, 3, 4, 6], .inl 0, []) else none
     else
      bif Nat.beq pc 2 then some (.getfield 154, 3, [8, 512, 1], .inl 0, []) else none
    else
     bif Nat.ble 1 pc then
      bif Nat.beq pc 1 then some (.aload_n 2, 1, [], .inl 0, []) else none
     else
      bif Nat.beq pc 0 then some (.aload_n 1, 1, [], .inl 0, []) else none
def kX11_fillPart (pc : Nat) : Option Ent := bif Nat.ble 116 pc then none else
 bif Nat.ble 63 pc then
  bif Nat.ble 90 pc then
   bif Nat.ble 104 pc then
    bif Nat.ble 110 pc then
     bif Nat.ble 114 pc then
      bif Nat.ble 115 pc then
       bif Nat.beq pc 115 then some (.ireturn, 1, [], .inl 0, []) else none
      else
       bif Nat.beq pc 114 then some (.iconst 0, 1, [], .inl (0), []) else none
     else
      bif Nat.ble 111 pc then
       bif Nat.beq pc 111 then some (.putfield 489, 3, [6, 388, 0], .inl 0, []) else none
      else
       bif Nat.beq pc 110 then some (.iadd, 1, [], .inl 0, []) else none
    else
     bif Nat.ble 106 pc then
      bif Nat.ble 109 pc then
       bif Nat.beq pc 109 then some (.iconst 1, 1, [], .inl (1), []) else none
      else
       bif Nat.beq pc 106 then some (.getfield 489, 3, [6, 388, 0], .inl 0, []) else none
     else
      bif Nat.ble 105 pc then
       bif Nat.beq pc 105 then some (.dup, 1, [], .inl 0, []) else none
      else
       bif Nat.beq pc 104 then some (.aload_n 2, 1, [], .inl 0, []) else none
   else
    bif Nat.ble 98 pc then
     bif Nat.ble 100 pc then
      bif Nat.ble 103 pc then
       bif Nat.beq pc 103 then some (.ireturn, 1, [], .inl 0, []) else none
      else
       bif Nat.beq pc 100 then some (.invokevirtual 378, 3, [127, 6, 1, 6, 11], .inl 0, []) else none
     else
      bif Nat.ble 99 pc then
       bif Nat.beq pc 99 then some (.iload_n 1, 1, [], .inl 0, []) else none
      else
       bif Nat.beq pc 98 then some (.iconst (-1), 1, [], .inl (-1), []) else none
    else
     bif Nat.ble 93 pc then
      bif Nat.ble 96 pc then
       bif Nat.beq pc 96 then some (.iload 4, 2, [], .inl 0, []) else none
      else
       bif Nat.beq pc 93 then some (.getfield 298, 3, [6, 384, 0], .inl 0, []) else none
     else
      bif Nat.ble 92 pc then
       bif Nat.beq pc 92 then some (.aload_n 2, 1, [], .inl 0, []) else none
      else
       bif Nat.beq pc 90 then some (.iload 6, 2, [], .inl 0, []) else none
  else
   bif Nat.ble 73 pc then
    bif Nat.ble 82 pc then
     bif Nat.ble 86 pc then
      bif Nat.ble 89 pc then
       bif Nat.beq pc 89 then some (.aload_n 0, 1, [], .inl 0, []) else none
      else
       bif Nat.beq pc 86 then some (.ifCond .eq 18, 3, [], .inl 0, []) else none
     else
      bif Nat.ble 84 pc then
       bif Nat.beq pc 84 then some (.iload 6, 2, [], .inl 0, []) else none
      else
       bif Nat.beq pc 82 then some (.istore 6, 2, [], .inl 0, []) else none
    else
     bif Nat.ble 78 pc then
      bif Nat.ble 79 pc then
       bif Nat.beq pc 79 then some (.invokevirtual 516, 3, [150, 4, 1, 6, 11], .inl 0, []) else none
      else
       bif Nat.beq pc 78 then some (.laload, 1, [], .inl 0, []) else none
     else
      bif Nat.ble 76 pc then
       bif Nat.beq pc 76 then some (.iload 4, 2, [], .inl 0, []) else none
      else
       bif Nat.beq pc 73 then some (.getfield 496, 3, [6, 387, 2], .inl 0, []) else none
   else
    bif Nat.ble 68 pc then
     bif Nat.ble 71 pc then
      bif Nat.ble 72 pc then
       bif Nat.beq pc 72 then some (.aload_n 2, 1, [], .inl 0, []) else none
      else
       bif Nat.beq pc 71 then some (.aload_n 3, 1, [], .inl 0, []) else none
     else
      bif Nat.ble 69 pc then
       bif Nat.beq pc 69 then some (.aload 5, 2, [], .inl 0, []) else none
      else
       bif Nat.beq pc 68 then some (.aload_n 0, 1, [], .inl 0, []) else none
    else
     bif Nat.ble 64 pc then
      bif Nat.ble 67 pc then
       bif Nat.beq pc 67 then some (.lastore, 1, [], .inl 0, []) else none
      else
       bif Nat.beq pc 64 then some (.invokevirtual 512, 3, [149, 3, 2, 3, 11], .inl 0, []) else none
     else
      bif Nat.beq pc 63 then some (.aload_n 3, 1, [], .inl 0, []) else none
 else
  bif Nat.ble 30 pc then
   bif Nat.ble 47 pc then
    bif Nat.ble 55 pc then
     bif Nat.ble 60 pc then
      bif Nat.ble 61 pc then
       bif Nat.beq pc 61 then some (.aload 5, 2, [], .inl 0, []) else none
      else
       bif Nat.beq pc 60 then some (.aload_n 0, 1, [], .inl 0, []) else none
     else
      bif Nat.ble 58 pc then
       bif Nat.beq pc 58 then some (.iload 4, 2, [], .inl 0, []) else none
      else
       bif Nat.beq pc 55 then some (.getfield 496, 3, [6, 387, 2], .inl 0, []) else none
    else
     bif Nat.ble 51 pc then
      bif Nat.ble 54 pc then
       bif Nat.beq pc 54 then some (.aload_n 2, 1, [], .inl 0, []) else none
      else
       bif Nat.beq pc 51 then some (.goto 33, 3, [], .inl 0, []) else none
     else
      bif Nat.ble 49 pc then
       bif Nat.beq pc 49 then some (.istore 6, 2, [], .inl 0, []) else none
      else
       bif Nat.beq pc 47 then some (.bipush 6, 2, [], .inl (6), []) else none
   else
    bif Nat.ble 38 pc then
     bif Nat.ble 41 pc then
      bif Nat.ble 44 pc then
       bif Nat.beq pc 44 then some (.ifCond .ne 10, 3, [], .inl 0, []) else none
      else
       bif Nat.beq pc 41 then some (.invokevirtual 508, 3, [58, 2, 1, 3, 5], .inl 0, []) else none
     else
      bif Nat.ble 40 pc then
       bif Nat.beq pc 40 then some (.aload_n 3, 1, [], .inl 0, []) else none
      else
       bif Nat.beq pc 38 then some (.aload 5, 2, [], .inl 0, []) else none
    else
     bif Nat.ble 34 pc then
      bif Nat.ble 35 pc then
       bif Nat.beq pc 35 then some (.goto 49, 3, [], .inl 0, []) else none
      else
       bif Nat.beq pc 34 then some (.lastore, 1, [], .inl 0, []) else none
     else
      bif Nat.ble 31 pc then
       bif Nat.beq pc 31 then some (.getfield 505, 3, [8, 515, 1], .inl 0, []) else none
      else
       bif Nat.beq pc 30 then some (.aload_n 3, 1, [], .inl 0, []) else none
  else
   bif Nat.ble 14 pc then
    bif Nat.ble 21 pc then
     bif Nat.ble 25 pc then
      bif Nat.ble 28 pc then
       bif Nat.beq pc 28 then some (.iload 4, 2, [], .inl 0, []) else none
      else
       bif Nat.beq pc 25 then some (.getfield 496, 3, [6, 387, 2], .inl 0, []) else none
     else
      bif Nat.ble 24 pc then
       bif Nat.beq pc 24 then some (.aload_n 2, 1, [], .inl 0, []) else none
      else
       bif Nat.beq pc 21 then some (.ifnonnull 17, 3, [], .inl 0, []) else none
    else
     bif Nat.ble 17 pc then
      bif Nat.ble 19 pc then
       bif Nat.beq pc 19 then some (.aload 5, 2, [], .inl 0, []) else none
      else
       bif Nat.beq pc 17 then some (.istore 6, 2, [], .inl 0, []) else none
     else
      bif Nat.ble 16 pc then
       bif Nat.beq pc 16 then some (.iconst 0, 1, [], .inl (0), []) else none
      else
       bif Nat.beq pc 14 then some (.astore 5, 2, [], .inl 0, []) else none
   else
    bif Nat.ble 6 pc then
     bif Nat.ble 8 pc then
      bif Nat.ble 11 pc then
       bif Nat.beq pc 11 then some (.invokevirtual 305, 3, [60, 2, 3, 4, 6], .inl 0, []) else none
      else
       bif Nat.beq pc 8 then some (.getfield 154, 3, [8, 512, 1], .inl 0, []) else none
     else
      bif Nat.ble 7 pc then
       bif Nat.beq pc 7 then some (.aload_n 3, 1, [], .inl 0, []) else none
      else
       bif Nat.beq pc 6 then some (.aload_n 2, 1, [], .inl 0, []) else none
    else
     bif Nat.ble 1 pc then
      bif Nat.ble 4 pc then
       bif Nat.beq pc 4 then some (.istore 4, 2, [], .inl 0, []) else none
      else
       bif Nat.beq pc 1 then some (.getfield 489, 3, [6, 388, 0], .inl 0, []) else none
     else
      bif Nat.beq pc 0 then some (.aload_n 2, 1, [], .inl 0, []) else none
def kX11_valueNow (pc : Nat) : Option Ent := bif Nat.ble 84 pc then none else
 bif Nat.ble 56 pc then
  bif Nat.ble 68 pc then
   bif Nat.ble 76 pc then
    bif Nat.ble 80 pc then
     bif Nat.ble 83 pc then
      bif Nat.beq pc 83 then some (.lreturn, 1, [], .inl 0, []) else none
     else
      bif Nat.beq pc 80 then some (.invokestatic 534, 3, [33, 3, 2, 4, 100], .inl 0, []) else none
    else
     bif Nat.ble 77 pc then
      bif Nat.beq pc 77 then some (.getfield 502, 3, [5, 323, 1], .inl 0, []) else none
     else
      bif Nat.beq pc 76 then some (.aload_n 1, 1, [], .inl 0, []) else none
   else
    bif Nat.ble 72 pc then
     bif Nat.ble 73 pc then
      bif Nat.beq pc 73 then some (.getfield 158, 3, [8, 513, 0], .inl 0, []) else none
     else
      bif Nat.beq pc 72 then some (.aload_n 2, 1, [], .inl 0, []) else none
    else
     bif Nat.ble 69 pc then
      bif Nat.beq pc 69 then some (.getfield 501, 3, [5, 321, 0], .inl 0, []) else none
     else
      bif Nat.beq pc 68 then some (.aload_n 1, 1, [], .inl 0, []) else none
  else
   bif Nat.ble 62 pc then
    bif Nat.ble 64 pc then
     bif Nat.ble 67 pc then
      bif Nat.beq pc 67 then some (.lreturn, 1, [], .inl 0, []) else none
     else
      bif Nat.beq pc 64 then some (.invokevirtual 531, 3, [154, 2, 2, 3, 11], .inl 0, []) else none
    else
     bif Nat.ble 63 pc then
      bif Nat.beq pc 63 then some (.aload_n 1, 1, [], .inl 0, []) else none
     else
      bif Nat.beq pc 62 then some (.aload_n 0, 1, [], .inl 0, []) else none
   else
    bif Nat.ble 58 pc then
     bif Nat.ble 61 pc then
      bif Nat.beq pc 61 then some (.lreturn, 1, [], .inl 0, []) else none
     else
      bif Nat.beq pc 58 then some (.invokevirtual 527, 3, [153, 2, 2, 2, 11], .inl 0, []) else none
    else
     bif Nat.ble 57 pc then
      bif Nat.beq pc 57 then some (.aload_n 1, 1, [], .inl 0, []) else none
     else
      bif Nat.beq pc 56 then some (.aload_n 0, 1, [], .inl 0, []) else none
 else
  bif Nat.ble 42 pc then
   bif Nat.ble 48 pc then
    bif Nat.ble 52 pc then
     bif Nat.ble 55 pc then
      bif Nat.beq pc 55 then some (.lreturn, 1, [], .inl 0, []) else none
     else
      bif Nat.beq pc 52 then some (.invokevirtual 524, 3, [152, 3, 2, 8, 11], .inl 0, []) else none
    else
     bif Nat.ble 49 pc then
      bif Nat.beq pc 49 then some (.getfield 349, 3, [8, 514, 0], .inl 0, []) else none
     else
      bif Nat.beq pc 48 then some (.aload_n 2, 1, [], .inl 0, []) else none
   else
    bif Nat.ble 46 pc then
     bif Nat.ble 47 pc then
      bif Nat.beq pc 47 then some (.aload_n 1, 1, [], .inl 0, []) else none
     else
      bif Nat.beq pc 46 then some (.aload_n 0, 1, [], .inl 0, []) else none
    else
     bif Nat.ble 45 pc then
      bif Nat.beq pc 45 then some (.lreturn, 1, [], .inl 0, []) else none
     else
      bif Nat.beq pc 42 then some (.invokevirtual 520, 3, [151, 3, 2, 4, 11], .inl 0, []) else none
  else
   bif Nat.ble 36 pc then
    bif Nat.ble 38 pc then
     bif Nat.ble 39 pc then
      bif Nat.beq pc 39 then some (.getfield 349, 3, [8, 514, 0], .inl 0, []) else none
     else
      bif Nat.beq pc 38 then some (.aload_n 2, 1, [], .inl 0, []) else none
    else
     bif Nat.ble 37 pc then
      bif Nat.beq pc 37 then some (.aload_n 1, 1, [], .inl 0, []) else none
     else
      bif Nat.beq pc 36 then some (.aload_n 0, 1, [], .inl 0, []) else none
   else
    bif Nat.ble 1 pc then
     bif Nat.ble 4 pc then
      bif Nat.beq pc 4 then some (.tableswitch 64 8 11 #[32, 42, 52, 58], 32, [], .inl 0, []) else none
     else
      bif Nat.beq pc 1 then some (.getfield 158, 3, [8, 513, 0], .inl 0, []) else none
    else
     bif Nat.beq pc 0 then some (.aload_n 2, 1, [], .inl 0, []) else none
def kX11_thrownByFilling (pc : Nat) : Option Ent := bif Nat.ble 75 pc then none else
 bif Nat.ble 38 pc then
  bif Nat.ble 55 pc then
   bif Nat.ble 65 pc then
    bif Nat.ble 69 pc then
     bif Nat.ble 72 pc then
      bif Nat.ble 74 pc then
       bif Nat.beq pc 74 then some (.ireturn, 1, [], .inl 0, []) else none
      else
       bif Nat.beq pc 72 then some (.bipush 6, 2, [], .inl (6), []) else none
     else
      bif Nat.beq pc 69 then some (.goto 5, 3, [], .inl 0, []) else none
    else
     bif Nat.ble 68 pc then
      bif Nat.beq pc 68 then some (.iconst 0, 1, [], .inl (0), []) else none
     else
      bif Nat.beq pc 65 then some (.ifCond .eq 7, 3, [], .inl 0, []) else none
   else
    bif Nat.ble 58 pc then
     bif Nat.ble 59 pc then
      bif Nat.ble 62 pc then
       bif Nat.beq pc 62 then some (.invokevirtual 366, 3, [125, 3, 1, 4, 11], .inl 0, []) else none
      else
       bif Nat.beq pc 59 then some (.getfield 349, 3, [8, 514, 0], .inl 0, []) else none
     else
      bif Nat.beq pc 58 then some (.aload_n 2, 1, [], .inl 0, []) else none
    else
     bif Nat.ble 56 pc then
      bif Nat.beq pc 56 then some (.aload 5, 2, [], .inl 0, []) else none
     else
      bif Nat.beq pc 55 then some (.aload_n 0, 1, [], .inl 0, []) else none
  else
   bif Nat.ble 44 pc then
    bif Nat.ble 48 pc then
     bif Nat.ble 50 pc then
      bif Nat.ble 52 pc then
       bif Nat.beq pc 52 then some (.ifnull 16, 3, [], .inl 0, []) else none
      else
       bif Nat.beq pc 50 then some (.aload 5, 2, [], .inl 0, []) else none
     else
      bif Nat.beq pc 48 then some (.astore 5, 2, [], .inl 0, []) else none
    else
     bif Nat.ble 45 pc then
      bif Nat.beq pc 45 then some (.invokevirtual 245, 3, [111, 2, 3, 3, 11], .inl 0, []) else none
     else
      bif Nat.beq pc 44 then some (.lload_n 3, 1, [], .inl 0, []) else none
   else
    bif Nat.ble 42 pc then
     bif Nat.ble 43 pc then
      bif Nat.beq pc 43 then some (.aload_n 0, 1, [], .inl 0, []) else none
     else
      bif Nat.beq pc 42 then some (.ireturn, 1, [], .inl 0, []) else none
    else
     bif Nat.ble 41 pc then
      bif Nat.beq pc 41 then some (.iconst 0, 1, [], .inl (0), []) else none
     else
      bif Nat.beq pc 38 then some (.if_icmp .eq 5, 3, [], .inl 0, []) else none
 else
  bif Nat.ble 18 pc then
   bif Nat.ble 30 pc then
    bif Nat.ble 32 pc then
     bif Nat.ble 33 pc then
      bif Nat.ble 36 pc then
       bif Nat.beq pc 36 then some (.bipush 11, 2, [], .inl (11), []) else none
      else
       bif Nat.beq pc 33 then some (.getfield 158, 3, [8, 513, 0], .inl 0, []) else none
     else
      bif Nat.beq pc 32 then some (.aload_n 2, 1, [], .inl 0, []) else none
    else
     bif Nat.ble 31 pc then
      bif Nat.beq pc 31 then some (.ireturn, 1, [], .inl 0, []) else none
     else
      bif Nat.beq pc 30 then some (.iconst 0, 1, [], .inl (0), []) else none
   else
    bif Nat.ble 22 pc then
     bif Nat.ble 25 pc then
      bif Nat.ble 27 pc then
       bif Nat.beq pc 27 then some (.goto 4, 3, [], .inl 0, []) else none
      else
       bif Nat.beq pc 25 then some (.bipush 8, 2, [], .inl (8), []) else none
     else
      bif Nat.beq pc 22 then some (.ifCond .ne 8, 3, [], .inl 0, []) else none
    else
     bif Nat.ble 21 pc then
      bif Nat.beq pc 21 then some (.lcmp, 1, [], .inl 0, []) else none
     else
      bif Nat.beq pc 18 then some (.ldc2_w 347, 3, [], .inr (.inl (-1)), []) else none
  else
   bif Nat.ble 9 pc then
    bif Nat.ble 13 pc then
     bif Nat.ble 14 pc then
      bif Nat.ble 17 pc then
       bif Nat.beq pc 17 then some (.lload_n 3, 1, [], .inl 0, []) else none
      else
       bif Nat.beq pc 14 then some (.ifCond .le 16, 3, [], .inl 0, []) else none
     else
      bif Nat.beq pc 13 then some (.arraylength, 1, [], .inl 0, []) else none
    else
     bif Nat.ble 10 pc then
      bif Nat.beq pc 10 then some (.getfield 538, 3, [5, 324, 2], .inl 0, []) else none
     else
      bif Nat.beq pc 9 then some (.aload_n 1, 1, [], .inl 0, []) else none
   else
    bif Nat.ble 4 pc then
     bif Nat.ble 6 pc then
      bif Nat.beq pc 6 then some (.if_icmp .ne 26, 3, [], .inl 0, []) else none
     else
      bif Nat.beq pc 4 then some (.bipush 8, 2, [], .inl (8), []) else none
    else
     bif Nat.ble 1 pc then
      bif Nat.beq pc 1 then some (.getfield 158, 3, [8, 513, 0], .inl 0, []) else none
     else
      bif Nat.beq pc 0 then some (.aload_n 2, 1, [], .inl 0, []) else none
def kX11_ordinalNow (pc : Nat) : Option Ent := bif Nat.ble 36 pc then none else
 bif Nat.ble 18 pc then
  bif Nat.ble 29 pc then
   bif Nat.ble 31 pc then
    bif Nat.ble 34 pc then
     bif Nat.ble 35 pc then
      bif Nat.beq pc 35 then some (.lreturn, 1, [], .inl 0, []) else none
     else
      bif Nat.beq pc 34 then some (.i2l, 1, [], .inl 0, []) else none
    else
     bif Nat.beq pc 31 then some (.invokevirtual 73, 3, [47, 2, 1, 4, 3], .inl 0, []) else none
   else
    bif Nat.ble 30 pc then
     bif Nat.beq pc 30 then some (.laload, 1, [], .inl 0, []) else none
    else
     bif Nat.beq pc 29 then some (.iconst 0, 1, [], .inl (0), []) else none
  else
   bif Nat.ble 24 pc then
    bif Nat.ble 25 pc then
     bif Nat.ble 26 pc then
      bif Nat.beq pc 26 then some (.getfield 538, 3, [5, 324, 2], .inl 0, []) else none
     else
      bif Nat.beq pc 25 then some (.aload_n 1, 1, [], .inl 0, []) else none
    else
     bif Nat.beq pc 24 then some (.aload_n 3, 1, [], .inl 0, []) else none
   else
    bif Nat.ble 21 pc then
     bif Nat.beq pc 21 then some (.goto 14, 3, [], .inl 0, []) else none
    else
     bif Nat.beq pc 18 then some (.ldc2_w 347, 3, [], .inr (.inl (-1)), []) else none
 else
  bif Nat.ble 7 pc then
   bif Nat.ble 11 pc then
    bif Nat.ble 14 pc then
     bif Nat.ble 15 pc then
      bif Nat.beq pc 15 then some (.ifCond .ne 9, 3, [], .inl 0, []) else none
     else
      bif Nat.beq pc 14 then some (.arraylength, 1, [], .inl 0, []) else none
    else
     bif Nat.beq pc 11 then some (.getfield 538, 3, [5, 324, 2], .inl 0, []) else none
   else
    bif Nat.ble 10 pc then
     bif Nat.beq pc 10 then some (.aload_n 1, 1, [], .inl 0, []) else none
    else
     bif Nat.beq pc 7 then some (.ifnull 11, 3, [], .inl 0, []) else none
  else
   bif Nat.ble 2 pc then
    bif Nat.ble 5 pc then
     bif Nat.ble 6 pc then
      bif Nat.beq pc 6 then some (.aload_n 3, 1, [], .inl 0, []) else none
     else
      bif Nat.beq pc 5 then some (.astore_n 3, 1, [], .inl 0, []) else none
    else
     bif Nat.beq pc 2 then some (.invokevirtual 63, 3, [107, 2, 3, 2, 11], .inl 0, []) else none
   else
    bif Nat.ble 1 pc then
     bif Nat.beq pc 1 then some (.iload_n 2, 1, [], .inl 0, []) else none
    else
     bif Nat.beq pc 0 then some (.aload_n 0, 1, [], .inl 0, []) else none
def kX11_setNow (pc : Nat) : Option Ent := bif Nat.ble 76 pc then none else
 bif Nat.ble 37 pc then
  bif Nat.ble 55 pc then
   bif Nat.ble 64 pc then
    bif Nat.ble 70 pc then
     bif Nat.ble 73 pc then
      bif Nat.ble 75 pc then
       bif Nat.beq pc 75 then some (.lreturn, 1, [], .inl 0, []) else none
      else
       bif Nat.beq pc 73 then some (.lload 4, 2, [], .inl 0, []) else none
     else
      bif Nat.beq pc 70 then some (.goto (-58), 3, [], .inl 0, []) else none
    else
     bif Nat.ble 65 pc then
      bif Nat.ble 67 pc then
       bif Nat.beq pc 67 then some (.iinc 6 1, 3, [], .inl (1), []) else none
      else
       bif Nat.beq pc 65 then some (.lstore 4, 2, [], .inl 0, []) else none
     else
      bif Nat.beq pc 64 then some (.lor, 1, [], .inl 0, []) else none
   else
    bif Nat.ble 60 pc then
     bif Nat.ble 61 pc then
      bif Nat.ble 63 pc then
       bif Nat.beq pc 63 then some (.lshl, 1, [], .inl 0, []) else none
      else
       bif Nat.beq pc 61 then some (.iload 7, 2, [], .inl 0, []) else none
     else
      bif Nat.beq pc 60 then some (.lconst 1, 1, [], .inr (.inl (1)), []) else none
    else
     bif Nat.ble 58 pc then
      bif Nat.beq pc 58 then some (.lload 4, 2, [], .inl 0, []) else none
     else
      bif Nat.beq pc 55 then some (.goto 12, 3, [], .inl 0, []) else none
  else
   bif Nat.ble 46 pc then
    bif Nat.ble 50 pc then
     bif Nat.ble 51 pc then
      bif Nat.ble 52 pc then
       bif Nat.beq pc 52 then some (.putfield 327, 3, [11, 722, 0], .inl 0, []) else none
      else
       bif Nat.beq pc 51 then some (.iadd, 1, [], .inl 0, []) else none
     else
      bif Nat.beq pc 50 then some (.iconst 1, 1, [], .inl (1), []) else none
    else
     bif Nat.ble 47 pc then
      bif Nat.beq pc 47 then some (.getfield 327, 3, [11, 722, 0], .inl 0, []) else none
     else
      bif Nat.beq pc 46 then some (.dup, 1, [], .inl 0, []) else none
   else
    bif Nat.ble 41 pc then
     bif Nat.ble 42 pc then
      bif Nat.ble 45 pc then
       bif Nat.beq pc 45 then some (.aload_n 0, 1, [], .inl 0, []) else none
      else
       bif Nat.beq pc 42 then some (.if_icmp .ne 16, 3, [], .inl 0, []) else none
     else
      bif Nat.beq pc 41 then some (.iconst (-1), 1, [], .inl (-1), []) else none
    else
     bif Nat.ble 39 pc then
      bif Nat.beq pc 39 then some (.iload 7, 2, [], .inl 0, []) else none
     else
      bif Nat.beq pc 37 then some (.istore 7, 2, [], .inl 0, []) else none
 else
  bif Nat.ble 16 pc then
   bif Nat.ble 26 pc then
    bif Nat.ble 31 pc then
     bif Nat.ble 33 pc then
      bif Nat.ble 34 pc then
       bif Nat.beq pc 34 then some (.invokevirtual 73, 3, [47, 2, 1, 4, 3], .inl 0, []) else none
      else
       bif Nat.beq pc 33 then some (.laload, 1, [], .inl 0, []) else none
     else
      bif Nat.beq pc 31 then some (.iload 6, 2, [], .inl 0, []) else none
    else
     bif Nat.ble 27 pc then
      bif Nat.ble 28 pc then
       bif Nat.beq pc 28 then some (.getfield 538, 3, [5, 324, 2], .inl 0, []) else none
      else
       bif Nat.beq pc 27 then some (.aload_n 1, 1, [], .inl 0, []) else none
     else
      bif Nat.beq pc 26 then some (.aload_n 3, 1, [], .inl 0, []) else none
   else
    bif Nat.ble 19 pc then
     bif Nat.ble 22 pc then
      bif Nat.ble 23 pc then
       bif Nat.beq pc 23 then some (.if_icmp .ge 50, 3, [], .inl 0, []) else none
      else
       bif Nat.beq pc 22 then some (.arraylength, 1, [], .inl 0, []) else none
     else
      bif Nat.beq pc 19 then some (.getfield 538, 3, [5, 324, 2], .inl 0, []) else none
    else
     bif Nat.ble 18 pc then
      bif Nat.beq pc 18 then some (.aload_n 1, 1, [], .inl 0, []) else none
     else
      bif Nat.beq pc 16 then some (.iload 6, 2, [], .inl 0, []) else none
  else
   bif Nat.ble 7 pc then
    bif Nat.ble 10 pc then
     bif Nat.ble 12 pc then
      bif Nat.ble 13 pc then
       bif Nat.beq pc 13 then some (.ifnull 60, 3, [], .inl 0, []) else none
      else
       bif Nat.beq pc 12 then some (.aload_n 3, 1, [], .inl 0, [2, 5, 7]) else none
     else
      bif Nat.beq pc 10 then some (.istore 6, 2, [], .inl 0, []) else none
    else
     bif Nat.ble 9 pc then
      bif Nat.beq pc 9 then some (.iconst 0, 1, [], .inl (0), []) else none
     else
      bif Nat.beq pc 7 then some (.lstore 4, 2, [], .inl 0, []) else none
   else
    bif Nat.ble 2 pc then
     bif Nat.ble 5 pc then
      bif Nat.ble 6 pc then
       bif Nat.beq pc 6 then some (.lconst 0, 1, [], .inr (.inl (0)), []) else none
      else
       bif Nat.beq pc 5 then some (.astore_n 3, 1, [], .inl 0, []) else none
     else
      bif Nat.beq pc 2 then some (.invokevirtual 63, 3, [107, 2, 3, 2, 11], .inl 0, []) else none
    else
     bif Nat.ble 1 pc then
      bif Nat.beq pc 1 then some (.iload_n 2, 1, [], .inl 0, []) else none
     else
      bif Nat.beq pc 0 then some (.aload_n 0, 1, [], .inl 0, []) else none
def kX11_rowNow (pc : Nat) : Option Ent := bif Nat.ble 77 pc then none else
 bif Nat.ble 37 pc then
  bif Nat.ble 59 pc then
   bif Nat.ble 68 pc then
    bif Nat.ble 72 pc then
     bif Nat.ble 75 pc then
      bif Nat.ble 76 pc then
       bif Nat.beq pc 76 then some (.lreturn, 1, [], .inl 0, []) else none
      else
       bif Nat.beq pc 75 then some (.i2l, 1, [], .inl 0, []) else none
     else
      bif Nat.beq pc 72 then some (.getfield 541, 3, [5, 325, 0], .inl 0, []) else none
    else
     bif Nat.ble 71 pc then
      bif Nat.beq pc 71 then some (.aload_n 1, 1, [], .inl 0, []) else none
     else
      bif Nat.beq pc 68 then some (.invokestatic 424, 3, [9001], .inl 0, []) else none
   else
    bif Nat.ble 63 pc then
     bif Nat.ble 64 pc then
      bif Nat.ble 67 pc then
       bif Nat.beq pc 67 then some (.arraylength, 1, [], .inl 0, []) else none
      else
       bif Nat.beq pc 64 then some (.getfield 538, 3, [5, 324, 2], .inl 0, []) else none
     else
      bif Nat.beq pc 63 then some (.aload_n 1, 1, [], .inl 0, []) else none
    else
     bif Nat.ble 62 pc then
      bif Nat.beq pc 62 then some (.iconst 0, 1, [], .inl (0), []) else none
     else
      bif Nat.beq pc 59 then some (.getfield 221, 3, [10, 642, 2], .inl 0, []) else none
  else
   bif Nat.ble 46 pc then
    bif Nat.ble 50 pc then
     bif Nat.ble 53 pc then
      bif Nat.ble 56 pc then
       bif Nat.beq pc 56 then some (.checkcast 217, 3, [10], .inl 0, []) else none
      else
       bif Nat.beq pc 53 then some (.invokevirtual 190, 3, [16, 2, 3, 2, 0], .inl 0, []) else none
     else
      bif Nat.beq pc 50 then some (.getfield 541, 3, [5, 325, 0], .inl 0, []) else none
    else
     bif Nat.ble 49 pc then
      bif Nat.beq pc 49 then some (.aload_n 1, 1, [], .inl 0, []) else none
     else
      bif Nat.beq pc 46 then some (.getfield 22, 3, [11, 707, 2], .inl 0, []) else none
   else
    bif Nat.ble 41 pc then
     bif Nat.ble 44 pc then
      bif Nat.ble 45 pc then
       bif Nat.beq pc 45 then some (.aload_n 0, 1, [], .inl 0, []) else none
      else
       bif Nat.beq pc 44 then some (.iconst 0, 1, [], .inl (0), []) else none
     else
      bif Nat.beq pc 41 then some (.getfield 538, 3, [5, 324, 2], .inl 0, []) else none
    else
     bif Nat.ble 40 pc then
      bif Nat.beq pc 40 then some (.aload_n 1, 1, [], .inl 0, []) else none
     else
      bif Nat.beq pc 37 then some (.putfield 541, 3, [5, 325, 0], .inl 0, []) else none
 else
  bif Nat.ble 19 pc then
   bif Nat.ble 26 pc then
    bif Nat.ble 30 pc then
     bif Nat.ble 33 pc then
      bif Nat.ble 34 pc then
       bif Nat.beq pc 34 then some (.invokevirtual 208, 3, [120, 3, 1, 3, 11], .inl 0, []) else none
      else
       bif Nat.beq pc 33 then some (.arraylength, 1, [], .inl 0, []) else none
     else
      bif Nat.beq pc 30 then some (.getfield 538, 3, [5, 324, 2], .inl 0, []) else none
    else
     bif Nat.ble 29 pc then
      bif Nat.beq pc 29 then some (.aload_n 1, 1, [], .inl 0, []) else none
     else
      bif Nat.beq pc 26 then some (.getfield 320, 3, [5, 322, 0], .inl 0, []) else none
   else
    bif Nat.ble 23 pc then
     bif Nat.ble 24 pc then
      bif Nat.ble 25 pc then
       bif Nat.beq pc 25 then some (.aload_n 1, 1, [], .inl 0, []) else none
      else
       bif Nat.beq pc 24 then some (.aload_n 0, 1, [], .inl 0, []) else none
     else
      bif Nat.beq pc 23 then some (.aload_n 1, 1, [], .inl 0, []) else none
    else
     bif Nat.ble 20 pc then
      bif Nat.beq pc 20 then some (.if_icmp .ne 51, 3, [], .inl 0, []) else none
     else
      bif Nat.beq pc 19 then some (.iconst (-1), 1, [], .inl (-1), []) else none
  else
   bif Nat.ble 8 pc then
    bif Nat.ble 14 pc then
     bif Nat.ble 15 pc then
      bif Nat.ble 16 pc then
       bif Nat.beq pc 16 then some (.getfield 541, 3, [5, 325, 0], .inl 0, []) else none
      else
       bif Nat.beq pc 15 then some (.aload_n 1, 1, [], .inl 0, []) else none
     else
      bif Nat.beq pc 14 then some (.lreturn, 1, [], .inl 0, []) else none
    else
     bif Nat.ble 11 pc then
      bif Nat.beq pc 11 then some (.ldc2_w 347, 3, [], .inr (.inl (-1)), []) else none
     else
      bif Nat.beq pc 8 then some (.ifCond .ne 7, 3, [], .inl 0, []) else none
   else
    bif Nat.ble 4 pc then
     bif Nat.ble 7 pc then
      bif Nat.beq pc 7 then some (.lcmp, 1, [], .inl 0, []) else none
     else
      bif Nat.beq pc 4 then some (.ldc2_w 347, 3, [], .inr (.inl (-1)), []) else none
    else
     bif Nat.ble 1 pc then
      bif Nat.beq pc 1 then some (.getfield 502, 3, [5, 323, 1], .inl 0, []) else none
     else
      bif Nat.beq pc 0 then some (.aload_n 1, 1, [], .inl 0, []) else none
def kX11_objectNow (pc : Nat) : Option Ent := bif Nat.ble 25 pc then none else
 bif Nat.ble 10 pc then
  bif Nat.ble 19 pc then
   bif Nat.ble 23 pc then
    bif Nat.ble 24 pc then
     bif Nat.beq pc 24 then some (.lreturn, 1, [], .inl 0, []) else none
    else
     bif Nat.beq pc 23 then some (.i2l, 1, [], .inl 0, []) else none
   else
    bif Nat.ble 20 pc then
     bif Nat.beq pc 20 then some (.getfield 292, 3, [6, 389, 0], .inl 0, []) else none
    else
     bif Nat.beq pc 19 then some (.aload_n 2, 1, [], .inl 0, []) else none
  else
   bif Nat.ble 13 pc then
    bif Nat.ble 16 pc then
     bif Nat.beq pc 16 then some (.goto 8, 3, [], .inl 0, []) else none
    else
     bif Nat.beq pc 13 then some (.ldc2_w 347, 3, [], .inr (.inl (-1)), []) else none
   else
    bif Nat.beq pc 10 then some (.ifnonnull 9, 3, [], .inl 0, []) else none
 else
  bif Nat.ble 5 pc then
   bif Nat.ble 8 pc then
    bif Nat.ble 9 pc then
     bif Nat.beq pc 9 then some (.aload_n 2, 1, [], .inl 0, []) else none
    else
     bif Nat.beq pc 8 then some (.astore_n 2, 1, [], .inl 0, []) else none
   else
    bif Nat.beq pc 5 then some (.invokevirtual 288, 3, [112, 2, 3, 3, 11], .inl 0, []) else none
  else
   bif Nat.ble 1 pc then
    bif Nat.ble 2 pc then
     bif Nat.beq pc 2 then some (.getfield 502, 3, [5, 323, 1], .inl 0, []) else none
    else
     bif Nat.beq pc 1 then some (.aload_n 1, 1, [], .inl 0, []) else none
   else
    bif Nat.beq pc 0 then some (.aload_n 0, 1, [], .inl 0, []) else none
def kX11_foundLine (pc : Nat) : Option Ent := bif Nat.ble 62 pc then none else
 bif Nat.ble 32 pc then
  bif Nat.ble 48 pc then
   bif Nat.ble 56 pc then
    bif Nat.ble 60 pc then
     bif Nat.ble 61 pc then
      bif Nat.beq pc 61 then some (.ireturn, 1, [], .inl 0, []) else none
     else
      bif Nat.beq pc 60 then some (.iconst (-1), 1, [], .inl (-1), []) else none
    else
     bif Nat.ble 57 pc then
      bif Nat.beq pc 57 then some (.goto 4, 3, [], .inl 0, []) else none
     else
      bif Nat.beq pc 56 then some (.iload_n 2, 1, [], .inl 0, []) else none
   else
    bif Nat.ble 52 pc then
     bif Nat.ble 53 pc then
      bif Nat.beq pc 53 then some (.if_icmp .ne 7, 3, [], .inl 0, []) else none
     else
      bif Nat.beq pc 52 then some (.iconst (-1), 1, [], .inl (-1), []) else none
    else
     bif Nat.ble 51 pc then
      bif Nat.beq pc 51 then some (.iload_n 1, 1, [], .inl 0, []) else none
     else
      bif Nat.beq pc 48 then some (.goto (-44), 3, [], .inl 0, []) else none
  else
   bif Nat.ble 40 pc then
    bif Nat.ble 42 pc then
     bif Nat.ble 45 pc then
      bif Nat.beq pc 45 then some (.iinc 3 1, 3, [], .inl (1), []) else none
     else
      bif Nat.beq pc 42 then some (.iinc 2 1, 3, [], .inl (1), []) else none
    else
     bif Nat.ble 41 pc then
      bif Nat.beq pc 41 then some (.ireturn, 1, [], .inl 0, []) else none
     else
      bif Nat.beq pc 40 then some (.iload_n 3, 1, [], .inl 0, []) else none
   else
    bif Nat.ble 36 pc then
     bif Nat.ble 37 pc then
      bif Nat.beq pc 37 then some (.if_icmp .ne 5, 3, [], .inl 0, []) else none
     else
      bif Nat.beq pc 36 then some (.iload_n 1, 1, [], .inl 0, []) else none
    else
     bif Nat.ble 35 pc then
      bif Nat.beq pc 35 then some (.iload_n 2, 1, [], .inl 0, []) else none
     else
      bif Nat.beq pc 32 then some (.goto 13, 3, [], .inl 0, []) else none
 else
  bif Nat.ble 12 pc then
   bif Nat.ble 20 pc then
    bif Nat.ble 26 pc then
     bif Nat.ble 29 pc then
      bif Nat.beq pc 29 then some (.ifCond .ne 6, 3, [], .inl 0, []) else none
     else
      bif Nat.beq pc 26 then some (.getfield 314, 3, [6, 390, 0], .inl 0, []) else none
    else
     bif Nat.ble 23 pc then
      bif Nat.beq pc 23 then some (.checkcast 199, 3, [6], .inl 0, []) else none
     else
      bif Nat.beq pc 20 then some (.invokevirtual 190, 3, [16, 2, 3, 2, 0], .inl 0, []) else none
   else
    bif Nat.ble 16 pc then
     bif Nat.ble 19 pc then
      bif Nat.beq pc 19 then some (.iload_n 3, 1, [], .inl 0, []) else none
     else
      bif Nat.beq pc 16 then some (.getfield 42, 3, [11, 719, 2], .inl 0, []) else none
    else
     bif Nat.ble 15 pc then
      bif Nat.beq pc 15 then some (.aload_n 0, 1, [], .inl 0, []) else none
     else
      bif Nat.beq pc 12 then some (.if_icmp .ge 39, 3, [], .inl 0, []) else none
  else
   bif Nat.ble 4 pc then
    bif Nat.ble 6 pc then
     bif Nat.ble 9 pc then
      bif Nat.beq pc 9 then some (.invokevirtual 52, 3, [14, 1, 1, 1, 0], .inl 0, []) else none
     else
      bif Nat.beq pc 6 then some (.getfield 42, 3, [11, 719, 2], .inl 0, []) else none
    else
     bif Nat.ble 5 pc then
      bif Nat.beq pc 5 then some (.aload_n 0, 1, [], .inl 0, []) else none
     else
      bif Nat.beq pc 4 then some (.iload_n 3, 1, [], .inl 0, []) else none
   else
    bif Nat.ble 2 pc then
     bif Nat.ble 3 pc then
      bif Nat.beq pc 3 then some (.istore_n 3, 1, [], .inl 0, []) else none
     else
      bif Nat.beq pc 2 then some (.iconst 0, 1, [], .inl (0), []) else none
    else
     bif Nat.ble 1 pc then
      bif Nat.beq pc 1 then some (.istore_n 2, 1, [], .inl 0, []) else none
     else
      bif Nat.beq pc 0 then some (.iconst 0, 1, [], .inl (0), []) else none
