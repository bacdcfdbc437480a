/-! every row of code is as it must be: printed by wip/whole/gen/gen_ok.py -/
def okT (z n : Nat) : Bool := (List.range n).all fun pc => match PP z pc with
  | none => true
  | some e => decide (decode (mB z) pc = .ok (e.1, e.2.1)) && okI z pc e.1 e.2.1 e.2.2.1 e.2.2.2.1
def okR (z a n : Nat) : Bool := (List.range n).all fun i => match PP z (a + i) with
  | none => true
  | some e => decide (decode (mB z) (a + i) = .ok (e.1, e.2.1)) && okI z (a + i) e.1 e.2.1 e.2.2.1 e.2.2.2.1
theorem okr_nil {z : Nat} : okT z 0 = true := rfl
theorem okr_cat {z a n : Nat} (h : okT z a = true) (g : okR z a n = true) : okT z (a + n) = true := by
  refine List.all_eq_true.mpr fun pc hpc => ?_
  by_cases hp : pc < a
  · exact List.all_eq_true.mp h pc (List.mem_range.mpr hp)
  · have hq := List.mem_range.mp hpc
    have := List.all_eq_true.mp g (pc - a) (List.mem_range.mpr (by omega))
    rw [show a + (pc - a) = pc by omega] at this
    exact this
theorem okr_cut {z m n : Nat} (hm : m ≤ n) (h : okT z n = true) : okT z m = true := List.all_eq_true.mpr fun pc hpc => List.all_eq_true.mp h pc (List.mem_range.mpr (Nat.lt_of_lt_of_le (List.mem_range.mp hpc) hm))
theorem ok_of {z n : Nat} (h : okT z n = true) (hn : ∀ pc, n ≤ pc → PP z pc = none) : ∀ pc e, PP z pc = some e → OkE z pc e := by
  intro pc e he
  by_cases hp : pc < n
  · have h1 := List.all_eq_true.mp h pc (List.mem_range.mpr hp)
    rw [he] at h1
    simp only [Bool.and_eq_true, decide_eq_true_eq] at h1
    exact h1
  · rw [hn pc (by omega)] at he
    cases he
theorem bif_none {pc n : Nat} (h : n ≤ pc) (x : Option Ent) : (bif Nat.ble n pc then none else x) = none := by
  rw [Nat.ble_eq_true_of_le h]
  rfl
set_option maxRecDepth 100000 in
theorem okm_0 : okT 0 12 = true := by decide +kernel
set_option maxRecDepth 100000 in
theorem okm_1 : okT 1 16 = true := by decide +kernel
set_option maxRecDepth 100000 in
theorem okm_2 : okT 2 12 = true := by decide +kernel
set_option maxRecDepth 100000 in
theorem okm_3 : okT 3 15 = true := by decide +kernel
set_option maxRecDepth 100000 in
theorem okm_4 : okT 4 79 = true := by decide +kernel
set_option maxRecDepth 100000 in
theorem okm_5 : okT 5 26 = true := by decide +kernel
set_option maxRecDepth 100000 in
theorem okm_6 : okT 6 61 = true := by decide +kernel
set_option maxRecDepth 100000 in
theorem okm_7 : okT 7 11 = true := by decide +kernel
set_option maxRecDepth 100000 in
theorem okm_8 : okT 8 11 = true := by decide +kernel
set_option maxRecDepth 100000 in
theorem okm_9 : okT 9 5 = true := by decide +kernel
set_option maxRecDepth 100000 in
theorem okm_10 : okT 10 10 = true := by decide +kernel
set_option maxRecDepth 100000 in
theorem okm_11 : okT 11 12 = true := by decide +kernel
set_option maxRecDepth 100000 in
theorem okm_12 : okT 12 60 = true := by decide +kernel
set_option maxRecDepth 100000 in
theorem okm_13 : okT 13 11 = true := by decide +kernel
set_option maxRecDepth 100000 in
theorem okm_14 : okT 14 5 = true := by decide +kernel
set_option maxRecDepth 100000 in
theorem okm_15 : okT 15 7 = true := by decide +kernel
set_option maxRecDepth 100000 in
theorem okm_16 : okT 16 15 = true := by decide +kernel
set_option maxRecDepth 100000 in
theorem okm_17 : okT 17 24 = true := by decide +kernel
set_option maxRecDepth 100000 in
theorem okm_18 : okT 18 23 = true := by decide +kernel
set_option maxRecDepth 100000 in
theorem okm_19 : okT 19 25 = true := by decide +kernel
set_option maxRecDepth 100000 in
theorem okm_20 : okT 20 26 = true := by decide +kernel
set_option maxRecDepth 100000 in
theorem okm_21 : okT 21 44 = true := by decide +kernel
set_option maxRecDepth 100000 in
theorem okm_22 : okT 22 23 = true := by decide +kernel
set_option maxRecDepth 100000 in
theorem okm_23 : okT 23 10 = true := by decide +kernel
set_option maxRecDepth 100000 in
theorem okm_24 : okT 24 40 = true := by decide +kernel
set_option maxRecDepth 100000 in
theorem okm_25 : okT 25 33 = true := by decide +kernel
set_option maxRecDepth 100000 in
theorem okm_26 : okT 26 7 = true := by decide +kernel
set_option maxRecDepth 100000 in
theorem okm_27 : okT 27 27 = true := by decide +kernel
set_option maxRecDepth 100000 in
theorem okm_28 : okT 28 60 = true := by decide +kernel
set_option maxRecDepth 100000 in
theorem okm_29 : okT 29 18 = true := by decide +kernel
set_option maxRecDepth 100000 in
theorem okm_30 : okT 30 73 = true := by decide +kernel
set_option maxRecDepth 100000 in
theorem okm_31 : okT 31 116 = true := by decide +kernel
set_option maxRecDepth 100000 in
theorem okm_32 : okT 32 18 = true := by decide +kernel
set_option maxRecDepth 100000 in
theorem okm_33 : okT 33 45 = true := by decide +kernel
set_option maxRecDepth 100000 in
theorem okm_34 : okT 34 97 = true := by decide +kernel
set_option maxRecDepth 100000 in
theorem okm_35 : okT 35 17 = true := by decide +kernel
set_option maxRecDepth 100000 in
theorem okm_36 : okT 36 27 = true := by decide +kernel
set_option maxRecDepth 100000 in
theorem okm_37 : okT 37 26 = true := by decide +kernel
set_option maxRecDepth 100000 in
theorem okm_38 : okT 38 74 = true := by decide +kernel
set_option maxRecDepth 100000 in
theorem okm_39 : okT 39 64 = true := by decide +kernel
set_option maxRecDepth 100000 in
theorem okm_40 : okT 40 116 = true := by decide +kernel
set_option maxRecDepth 100000 in
theorem okm_41 : okT 41 26 = true := by decide +kernel
set_option maxRecDepth 100000 in
theorem okm_42 : okT 42 15 = true := by decide +kernel
set_option maxRecDepth 100000 in
theorem okm_43 : okT 43 21 = true := by decide +kernel
set_option maxRecDepth 100000 in
theorem okm_44 : okT 44 33 = true := by decide +kernel
set_option maxRecDepth 100000 in
theorem okm_45 : okT 45 16 = true := by decide +kernel
set_option maxRecDepth 100000 in
theorem okm_46 : okT 46 36 = true := by decide +kernel
set_option maxRecDepth 100000 in
theorem okm_47 : okT 47 42 = true := by decide +kernel
set_option maxRecDepth 100000 in
theorem okm_48 : okT 48 11 = true := by decide +kernel
set_option maxRecDepth 100000 in
theorem okm_49 : okT 49 20 = true := by decide +kernel
set_option maxRecDepth 100000 in
theorem okm_50 : okT 50 30 = true := by decide +kernel
set_option maxRecDepth 100000 in
theorem okm_51 : okT 51 30 = true := by decide +kernel
set_option maxRecDepth 100000 in
theorem okm_52 : okT 52 39 = true := by decide +kernel
set_option maxRecDepth 100000 in
theorem okm_53 : okT 53 31 = true := by decide +kernel
set_option maxRecDepth 100000 in
theorem okm_54 : okT 54 45 = true := by decide +kernel
set_option maxRecDepth 100000 in
theorem okm_55 : okT 55 24 = true := by decide +kernel
set_option maxRecDepth 100000 in
theorem okm_56 : okT 56 39 = true := by decide +kernel
set_option maxRecDepth 100000 in
theorem okm_57 : okT 57 61 = true := by decide +kernel
set_option maxRecDepth 100000 in
theorem okm_58 : okT 58 98 = true := by decide +kernel
set_option maxRecDepth 100000 in
theorem okm_59 : okT 59 33 = true := by decide +kernel
set_option maxRecDepth 100000 in
theorem okm_60 : okT 60 40 = true := by decide +kernel
set_option maxRecDepth 100000 in
theorem okm_61 : okT 61 33 = true := by decide +kernel
set_option maxRecDepth 100000 in
theorem okm_62 : okT 62 13 = true := by decide +kernel
set_option maxRecDepth 100000 in
theorem okm_63 : okT 63 53 = true := by decide +kernel
set_option maxRecDepth 100000 in
theorem okm_64 : okT 64 27 = true := by decide +kernel
set_option maxRecDepth 100000 in
theorem okm_65 : okT 65 31 = true := by decide +kernel
set_option maxRecDepth 100000 in
theorem okm_66 : okT 66 42 = true := by decide +kernel
set_option maxRecDepth 100000 in
theorem okm_67 : okT 67 48 = true := by decide +kernel
set_option maxRecDepth 100000 in
theorem okm_68 : okT 68 58 = true := by decide +kernel
set_option maxRecDepth 100000 in
theorem okm_69 : okT 69 13 = true := by decide +kernel
set_option maxRecDepth 100000 in
theorem okm_70 : okT 70 19 = true := by decide +kernel
set_option maxRecDepth 100000 in
theorem okm_71 : okT 71 22 = true := by decide +kernel
set_option maxRecDepth 100000 in
theorem okm_72 : okT 72 130 = true := by decide +kernel
set_option maxRecDepth 100000 in
theorem okm_73 : okT 73 49 = true := by decide +kernel
set_option maxRecDepth 100000 in
theorem okm_74 : okT 74 87 = true := by decide +kernel
set_option maxRecDepth 100000 in
theorem okm_75 : okT 75 80 = true := by decide +kernel
set_option maxRecDepth 100000 in
theorem okm_76 : okT 76 48 = true := by decide +kernel
set_option maxRecDepth 100000 in
theorem okm_77 : okT 77 44 = true := by decide +kernel
set_option maxRecDepth 100000 in
theorem okm_78 : okT 78 49 = true := by decide +kernel
set_option maxRecDepth 100000 in
theorem okm_79 : okT 79 115 = true := by decide +kernel
set_option maxRecDepth 100000 in
theorem okm_80 : okT 80 50 = true := by decide +kernel
set_option maxRecDepth 100000 in
theorem okm_81 : okT 81 101 = true := by decide +kernel
set_option maxRecDepth 100000 in
theorem okm_82 : okT 82 57 = true := by decide +kernel
set_option maxRecDepth 100000 in
theorem okm_83 : okT 83 87 = true := by decide +kernel
set_option maxRecDepth 100000 in
theorem okm_84 : okT 84 113 = true := by decide +kernel
set_option maxRecDepth 100000 in
theorem okm_85 : okT 85 160 = true := by decide +kernel
set_option maxRecDepth 100000 in
theorem okm_86 : okT 86 56 = true := by decide +kernel
set_option maxRecDepth 100000 in
theorem okm_87 : okT 87 48 = true := by decide +kernel
set_option maxRecDepth 100000 in
theorem okm_88 : okT 88 31 = true := by decide +kernel
set_option maxRecDepth 100000 in
theorem okm_89 : okT 89 20 = true := by decide +kernel
set_option maxRecDepth 100000 in
theorem okm_90 : okT 90 21 = true := by decide +kernel
set_option maxRecDepth 100000 in
theorem okm_91 : okT 91 107 = true := by decide +kernel
set_option maxRecDepth 100000 in
theorem okm_92 : okT 92 25 = true := by decide +kernel
set_option maxRecDepth 100000 in
theorem okm_93 : okT 93 52 = true := by decide +kernel
set_option maxRecDepth 100000 in
theorem okm_94 : okT 94 20 = true := by decide +kernel
set_option maxRecDepth 100000 in
theorem okm_95 : okT 95 37 = true := by decide +kernel
set_option maxRecDepth 100000 in
theorem okm_96 : okT 96 48 = true := by decide +kernel
set_option maxRecDepth 100000 in
theorem okm_97 : okT 97 57 = true := by decide +kernel
set_option maxRecDepth 100000 in
theorem okm_98 : okT 98 100 = true := by decide +kernel
set_option maxRecDepth 100000 in
theorem okm_99 : okT 99 23 = true := by decide +kernel
set_option maxRecDepth 100000 in
theorem okm_100 : okT 100 52 = true := by decide +kernel
set_option maxRecDepth 100000 in
theorem okm_101 : okT 101 34 = true := by decide +kernel
set_option maxRecDepth 100000 in
theorem okm_102 : okT 102 67 = true := by decide +kernel
set_option maxRecDepth 100000 in
theorem okm_103 : okT 103 80 = true := by decide +kernel
set_option maxRecDepth 100000 in
theorem okm_104 : okT 104 108 = true := by decide +kernel
set_option maxRecDepth 100000 in
theorem okm_105 : okT 105 102 = true := by decide +kernel
set_option maxRecDepth 100000 in
theorem okm_106 : okT 106 114 = true := by decide +kernel
set_option maxRecDepth 100000 in
theorem okm_107 : okT 107 31 = true := by decide +kernel
set_option maxRecDepth 100000 in
theorem okm_108 : okT 108 31 = true := by decide +kernel
set_option maxRecDepth 100000 in
theorem okm_109 : okT 109 31 = true := by decide +kernel
set_option maxRecDepth 100000 in
theorem okm_110 : okT 110 33 = true := by decide +kernel
set_option maxRecDepth 100000 in
theorem okm_111 : okT 111 33 = true := by decide +kernel
set_option maxRecDepth 100000 in
theorem okm_112 : okT 112 36 = true := by decide +kernel
set_option maxRecDepth 100000 in
theorem okm_113 : okT 113 5 = true := by decide +kernel
set_option maxRecDepth 100000 in
theorem okm_114 : okT 114 90 = true := by decide +kernel
set_option maxRecDepth 100000 in
theorem okm_115 : okT 115 90 = true := by decide +kernel
set_option maxRecDepth 100000 in
theorem okm_116 : okT 116 19 = true := by decide +kernel
set_option maxRecDepth 100000 in
theorem okm_117 : okT 117 59 = true := by decide +kernel
set_option maxRecDepth 100000 in
theorem okm_118 : okT 118 30 = true := by decide +kernel
set_option maxRecDepth 100000 in
theorem okm_119 : okT 119 57 = true := by decide +kernel
set_option maxRecDepth 100000 in
theorem okm_120 : okT 120 60 = true := by decide +kernel
set_option maxRecDepth 100000 in
theorem okm_121 : okT 121 47 = true := by decide +kernel
set_option maxRecDepth 100000 in
theorem okm_122 : okT 122 127 = true := by decide +kernel
set_option maxRecDepth 100000 in
theorem okm_123 : okT 123 38 = true := by decide +kernel
set_option maxRecDepth 100000 in
theorem okm_124 : okT 124 33 = true := by decide +kernel
set_option maxRecDepth 100000 in
theorem okm_125 : okT 125 28 = true := by decide +kernel
set_option maxRecDepth 100000 in
theorem okm_126 : okT 126 186 = true := by decide +kernel
set_option maxRecDepth 100000 in
theorem okm_127 : okT 127 42 = true := by decide +kernel
set_option maxRecDepth 100000 in
theorem okm_128 : okT 128 153 = true := by decide +kernel
set_option maxRecDepth 100000 in
theorem okm_129 : okT 129 20 = true := by decide +kernel
set_option maxRecDepth 100000 in
theorem okm_130 : okT 130 21 = true := by decide +kernel
set_option maxRecDepth 100000 in
theorem okm_131 : okT 131 44 = true := by decide +kernel
set_option maxRecDepth 100000 in
theorem okm_132 : okT 132 78 = true := by decide +kernel
set_option maxRecDepth 100000 in
theorem okm_133 : okT 133 47 = true := by decide +kernel
set_option maxRecDepth 100000 in
theorem okm_134 : okT 134 64 = true := by decide +kernel
set_option maxRecDepth 100000 in
theorem okm_135 : okT 135 131 = true := by decide +kernel
set_option maxRecDepth 100000 in
theorem okm_136 : okT 136 22 = true := by decide +kernel
set_option maxRecDepth 100000 in
theorem okm_137 : okT 137 95 = true := by decide +kernel
set_option maxRecDepth 100000 in
theorem okm_138 : okT 138 80 = true := by decide +kernel
set_option maxRecDepth 100000 in
theorem okm_139 : okT 139 95 = true := by decide +kernel
set_option maxRecDepth 100000 in
theorem okm_140 : okT 140 93 = true := by decide +kernel
set_option maxRecDepth 100000 in
theorem okm_141 : okT 141 116 = true := by decide +kernel
set_option maxRecDepth 100000 in
theorem okm_142 : okT 142 133 = true := by decide +kernel
set_option maxRecDepth 100000 in
theorem okm_143 : okT 143 40 = true := by decide +kernel
set_option maxRecDepth 100000 in
theorem okm_144 : okT 144 13 = true := by decide +kernel
set_option maxRecDepth 100000 in
theorem okm_145 : okT 145 91 = true := by decide +kernel
set_option maxRecDepth 100000 in
theorem okm_146 : okT 146 241 = true := by decide +kernel
set_option maxRecDepth 100000 in
theorem okm_147 : okT 147 67 = true := by decide +kernel
set_option maxRecDepth 100000 in
theorem okm_148 : okT 148 116 = true := by decide +kernel
set_option maxRecDepth 100000 in
theorem okm_149 : okT 149 84 = true := by decide +kernel
set_option maxRecDepth 100000 in
theorem okm_150 : okT 150 75 = true := by decide +kernel
set_option maxRecDepth 100000 in
theorem okm_151 : okT 151 36 = true := by decide +kernel
set_option maxRecDepth 100000 in
theorem okm_152 : okT 152 76 = true := by decide +kernel
set_option maxRecDepth 100000 in
theorem okm_153 : okT 153 77 = true := by decide +kernel
set_option maxRecDepth 100000 in
theorem okm_154 : okT 154 25 = true := by decide +kernel
set_option maxRecDepth 100000 in
theorem okm_155 : okT 155 62 = true := by decide +kernel
