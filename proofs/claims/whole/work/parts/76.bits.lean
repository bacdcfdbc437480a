/-! NAMES AND BITS: the same on both sides -/
def inB (a lo hi : Int64) : Int32 := if lo ≤ a ∧ a ≤ hi then 1 else 0
theorem m_in (a lo hi : Int64) (M : Mem) : ex 157 6 [pJ a, pJ lo, pJ hi] M = some (some (pI (inB a lo hi)), M) := by
  rw [tX12_in]
  by_cases h1 : a < lo
  · have hv : inB a lo hi = 0 := if_neg (by rw [I64_lt] at h1; rw [I64_le]; omega)
    rw [hv]
    exact it_t (cmp_lt0.mpr h1) (zo_i (Or.inl rfl) rfl)
  · by_cases h2 : hi < a
    · have hv : inB a lo hi = 0 := if_neg (by rw [I64_lt] at h2; rw [I64_le, I64_le]; omega)
      rw [hv]
      exact it_f (fun q => h1 (cmp_lt0.mp q)) (it_t (cmp_gt0.mpr h2) (zo_i (Or.inl rfl) rfl))
    · have hv : inB a lo hi = 1 := if_pos (by rw [I64_lt] at h1 h2; rw [I64_le, I64_le]; omega)
      rw [hv]
      exact it_f (fun q => h1 (cmp_lt0.mp q)) (it_f (fun q => h2 (cmp_gt0.mp q)) (zo_i (Or.inr rfl) rfl))
theorem inB_01 (a lo hi : Int64) : inB a lo hi = 0 ∨ inB a lo hi = 1 := by
  unfold inB
  split
  · exact Or.inr rfl
  · exact Or.inl rfl
/-- the k-th byte -/
def byt (nm : Int64) (k : Nat) : Int64 := (nm.toUInt64 >>> ((nI (8 * k)).toInt64.toUInt64 &&& Int64.toUInt64 63)).toInt64 &&& (255 : Int64)
/-- are the n bytes from the k-th on as they must be; e: a byte 0 stood before them -/
def nmT (nm : Int64) : Nat → Nat → Bool → Bool
  | 0, _, _ => true
  | n + 1, k, e => if byt nm k = 0 then nmT nm n (k + 1) true else if e = true then false else if byt nm k < 97 then false else if byt nm k ≤ 122 then nmT nm n (k + 1) e else false
def b32 (b : Bool) : Int32 := match b with
  | true => 1
  | false => 0
theorem b32_01 (b : Bool) : b32 b = 0 ∨ b32 b = 1 := by cases b <;> simp [b32]
def nmOK (nm : Int64) : Int32 := b32 (nmT nm 8 0 false && decide (nm ≠ 0))
theorem c_name_loop (nm : Int64) (M : Mem) : ∀ (n k : Nat) (e : Bool), n + k = 8 → rn PP 30 4 [some (pJ nm), none, some (pI (b32 e)), some (pI (nI (8 * k))), none, none] [] M = some (some (pI (b32 (nmT nm n k e && decide (nm ≠ 0)))), M) := by
  intro n
  induction n with
  | zero =>
    intro k e hk
    have hk : k = 8 := by omega
    subst hk
    rw [tX0_isName_4]
    refine it_t (by decide) ?_
    by_cases h : nm = 0
    · refine it_t (cmp_eq0.mpr h) ?_
      rw [tX0_isName_72]
      refine zo_i (Or.inl rfl) ?_
      simp [nmT, h, b32]
    · refine it_f (fun q => h (cmp_eq0.mp q)) ?_
      rw [tX0_isName_72]
      refine zo_i (Or.inr rfl) ?_
      simp [nmT, h, b32]
  | succ n ih =>
    intro k e hk
    have bad : nmT nm (n + 1) k e = false → rn PP 30 53 [none, none, none, none, none, none] [] M = some (some (pI (b32 (nmT nm (n + 1) k e && decide (nm ≠ 0)))), M) := by
      intro h
      rw [tX0_isName_53, h]
      exact zo_i (Or.inl rfl) rfl
    have next : ∀ e', nmT nm (n + 1) k e = nmT nm n (k + 1) e' → rn PP 30 55 [some (pJ nm), none, some (pI (b32 e')), some (pI (nI (8 * k))), none, none] [] M = some (some (pI (b32 (nmT nm (n + 1) k e && decide (nm ≠ 0)))), M) := by
      intro e' h
      rw [tX0_isName_55, h, show nI (8 * k) + 8 = nI (8 * (k + 1)) from nI_add (8 * k) 8]
      exact ih (k + 1) e' (by omega)
    rw [tX0_isName_4]
    refine it_f (fun q => by rw [I32_le, nI_toInt (by omega)] at q; have : (64 : Int32).toInt = 64 := rfl; omega) ?_
    by_cases h : byt nm k = 0
    · exact it_f (not_not_intro (cmp_eq0.mpr h)) (next true (by simp [nmT, h]))
    · refine it_t (fun q => h (cmp_eq0.mp q)) ?_
      by_cases he : e = true
      · refine it_t (by subst he; decide) (bad (by simp [nmT, h, he]))
      · have he : e = false := by simpa using he
        subst he
        refine it_f (by decide) ?_
        by_cases h1 : byt nm k < 97
        · exact it_t (cmp_lt0.mpr h1) (bad (by simp [nmT, h, h1]))
        · refine it_f (fun q => h1 (cmp_lt0.mp q)) ?_
          by_cases h2 : byt nm k ≤ 122
          · exact it_t (cmp_le0.mpr h2) (next false (by simp [nmT, h, h1, h2]))
          · exact it_f (fun q => h2 (cmp_le0.mp q)) (bad (by simp [nmT, h, h1, h2]))
theorem c_name (nm : Int64) (M : Mem) : ex 30 6 [pJ nm] M = some (some (pI (nmOK nm)), M) := by
  rw [tX0_isName]
  exact c_name_loop nm M 8 0 false (by omega)
theorem in_byt (nm : Int64) (k : Nat) : inB (byt nm k) 97 122 = b32 (!decide (byt nm k < 97) && decide (byt nm k ≤ 122)) := by
  unfold inB
  by_cases h1 : byt nm k < 97
  · rw [if_neg (fun q => by rw [I64_lt] at h1; rw [I64_le] at q; omega)]
    simp [h1, b32]
  · by_cases h2 : byt nm k ≤ 122
    · rw [if_pos ⟨by rw [I64_lt] at h1; rw [I64_le]; omega, h2⟩]
      simp [h1, h2, b32]
    · rw [if_neg (fun q => h2 q.2)]
      simp [h2, b32]
theorem m_name_loop (nm : Int64) (M : Mem) : ∀ (n k : Nat) (e g : Bool), n + k = 8 → rn PP 158 20 [some (pJ nm), none, some (pI (b32 e)), some (pI (b32 g)), some (pI (nI k)), none, none] [] M = some (some (pI (b32 (g && nmT nm n k e))), M) := by
  intro n
  induction n with
  | zero =>
    intro k e g hk
    have hk : k = 8 := by omega
    subst hk
    rw [tX12_isName_20]
    refine it_t (by decide) (zo_i (b32_01 g) ?_)
    simp [nmT]
  | succ n ih =>
    intro k e g hk
    have next : ∀ e' g', (g && nmT nm (n + 1) k e) = (g' && nmT nm n (k + 1) e') → rn PP 158 20 [some (pJ nm), none, some (pI (b32 e')), some (pI (b32 g')), some (pI (nI k + 1)), none, none] [] M = some (some (pI (b32 (g && nmT nm (n + 1) k e))), M) := by
      intro e' g' h
      rw [h, nI_1]
      exact ih (k + 1) e' g' (by omega)
    have e8 : (8 : Int32) * nI k = nI (8 * k) := nI_mul 8 k
    have hby : (nm.toUInt64 >>> ((8 * nI k).toInt64.toUInt64 &&& Int64.toUInt64 63)).toInt64 &&& (255 : Int64) = byt nm k := by rw [e8]; rfl
    rw [tX12_isName_20, hby]
    refine it_f (fun q => by rw [I32_le, nI_toInt (by omega)] at q; have : (8 : Int32).toInt = 8 := rfl; omega) ?_
    by_cases he : e = true
    · subst he
      refine it_t (by decide) ?_
      cases g with
      | false => exact it_t rfl (next true false (by simp))
      | true =>
        refine it_f (by decide) (it_f (by decide) ?_)
        by_cases h : byt nm k = 0
        · exact it_f (not_not_intro (cmp_eq0.mpr h)) (next true true (by simp [nmT, h]))
        · exact it_t (fun q => h (cmp_eq0.mp q)) (next true false (by simp [nmT, h]))
    · have he : e = false := by simpa using he
      subst he
      refine it_f (by decide) ?_
      by_cases h : byt nm k = 0
      · refine it_f (not_not_intro (cmp_eq0.mpr h)) ?_
        cases g with
        | false => exact it_t rfl (next true false (by simp))
        | true => exact it_f (by decide) (it_f (by decide) (it_f (not_not_intro (cmp_eq0.mpr h)) (next true true (by simp [nmT, h]))))
      · refine it_t (fun q => h (cmp_eq0.mp q)) ?_
        cases g with
        | false => exact it_t rfl (next false false (by simp))
        | true =>
          refine it_f (by decide) (it_t rfl (clI_i (m_in _ _ _ M) ?_))
          rw [in_byt]
          by_cases h1 : byt nm k < 97
          · exact it_t (by simp [h1, b32]) (next false false (by simp [nmT, h, h1]))
          · by_cases h2 : byt nm k ≤ 122
            · exact it_f (by simp [h1, h2, b32]) (next false true (by simp [nmT, h, h1, h2]))
            · exact it_t (by simp [h2, b32]) (next false false (by simp [nmT, h, h2]))
theorem byt0 (nm : Int64) : byt nm 0 = nm &&& 255 := by
  unfold byt
  have : ((nI (8 * 0)).toInt64.toUInt64 &&& Int64.toUInt64 63) = 0 := by decide
  rw [this, UInt64.shiftRight_zero, Int64.toInt64_toUInt64]
theorem byt_nat (nm : Int64) (k : Nat) (hk : k < 8) : (byt nm k).toUInt64.toNat = nm.toUInt64.toNat / 2 ^ (8 * k) % 256 := by
  unfold byt
  have hs : ∀ k, k < 8 → ((nI (8 * k)).toInt64.toUInt64 &&& Int64.toUInt64 63).toNat = 8 * k := by decide
  rw [Int64.toUInt64_and, UInt64.toUInt64_toInt64, UInt64.toNat_and, UInt64.toNat_shiftRight, hs k hk]
  rw [show (8 * k) % 64 = 8 * k by omega, show (Int64.toUInt64 255).toNat = 2 ^ 8 - 1 by decide, Nat.and_two_pow_sub_one_eq_mod, Nat.shiftRight_eq_div_pow]
theorem byts0 (nm : Int64) (h : ∀ k, k < 8 → byt nm k = 0) : nm = 0 := by
  have key : ∀ k, k < 8 → nm.toUInt64.toNat / 2 ^ (8 * k) % 256 = 0 := by
    intro k hk
    rw [← byt_nat nm k hk, h k hk]
    decide
  have hlt := nm.toUInt64.toNat_lt
  have k0 := key 0 (by omega)
  have k1 := key 1 (by omega)
  have k2 := key 2 (by omega)
  have k3 := key 3 (by omega)
  have k4 := key 4 (by omega)
  have k5 := key 5 (by omega)
  have k6 := key 6 (by omega)
  have k7 := key 7 (by omega)
  simp only [Nat.mul_zero, Nat.pow_zero, Nat.div_one, Nat.reduceMul, Nat.reducePow] at k0 k1 k2 k3 k4 k5 k6 k7 hlt
  have : nm.toUInt64.toNat = 0 := by omega
  have h2 : nm.toUInt64 = 0 := UInt64.toNat_inj.mp (by rw [this]; rfl)
  have h3 := congrArg UInt64.toInt64 h2
  simpa using h3
theorem nmT_ended (nm : Int64) : ∀ (n k : Nat), nmT nm n k true = true → ∀ j, k ≤ j → j < k + n → byt nm j = 0 := by
  intro n
  induction n with
  | zero => intro k _ j h1 h2; omega
  | succ n ih =>
    intro k h j h1 h2
    simp only [nmT] at h
    split at h
    · rename_i h0
      by_cases e : j = k
      · subst e; exact h0
      · exact ih (k + 1) h j (by omega) (by omega)
    · simp at h
theorem m_name (nm : Int64) (M : Mem) : ex 158 7 [pJ nm] M = some (some (pI (nmOK nm)), M) := by
  rw [tX12_isName]
  refine clI_i (m_in _ _ _ M) ?_
  rw [← byt0, in_byt]
  have := m_name_loop nm M 8 0 false (!decide (byt nm 0 < 97) && decide (byt nm 0 ≤ 122)) (by omega)
  rw [show nI 0 = 0 from rfl, show b32 false = 0 from rfl] at this
  rw [this]
  unfold nmOK
  congr 3
  congr 2
  by_cases h : byt nm 0 = 0
  · have hin : (!decide (byt nm 0 < 97) && decide (byt nm 0 ≤ 122)) = false := by rw [h]; decide
    rw [hin, Bool.false_and]
    cases ht : nmT nm 8 0 false with
    | false => rfl
    | true =>
      have h8 : nmT nm 7 1 true = true := by
        have : nmT nm 8 0 false = nmT nm 7 1 true := by simp [nmT, h]
        rw [← this]; exact ht
      have hz : nm = 0 := byts0 nm (fun k hk => by
        by_cases e : k = 0
        · subst e; exact h
        · exact nmT_ended nm 7 1 h8 k (by omega) (by omega))
      simp [hz]
  · have hn : nm ≠ 0 := fun q => h (by rw [q]; decide)
    by_cases h1 : byt nm 0 < 97
    · simp [nmT, h, h1]
    · by_cases h2 : byt nm 0 ≤ 122
      · simp [h1, h2, hn]
      · simp [nmT, h, h1, h2]
/-- bits in the shape of a sort -/
def shp (s : Int32) (v : Int64) : Int64 :=
  if s = 0 then (if v = 0 then 0 else 1) else if s = 1 then v.toInt32.toInt8.toInt32.toInt64 else if s = 2 then v.toInt32.toInt16.toInt32.toInt64 else if s = 3 then ((v.toInt32.toUInt32 % 65536).toInt32).toInt64 else if s = 4 then v.toInt32.toInt64 else if s = 5 then v else if s = 6 then (if (v.toInt32 &&& 2147483647) ≤ 2139095040 then v.toInt32.toInt64 else 2143289344) else if s = 7 then (if (v &&& 9223372036854775807) ≤ 9218868437227405312 then v else 9221120237041090560) else v
theorem c_isNum (v : Int64) (M : Mem) : ex 32 2 [pJ v] M = some (some (pI (if (v &&& 9223372036854775807) ≤ 9218868437227405312 then 1 else 0)), M) := by
  rw [tX0_isNumber]
  by_cases h : (v &&& 9223372036854775807) ≤ (9218868437227405312 : Int64)
  · rw [if_pos h]
    exact it_f (fun q => by have := cmp_gt0.mp q; rw [I64_lt] at this; rw [I64_le] at h; omega) (zo_i (Or.inr rfl) rfl)
  · rw [if_neg h]
    exact it_t (cmp_gt0.mpr (by rw [I64_lt]; rw [I64_le] at h; omega)) (zo_i (Or.inl rfl) rfl)
theorem c_shaped (s : Int32) (v : Int64) (M : Mem) : ex 31 3 [pI s, pJ v] M = some (some (pJ (shp s v)), M) := by
  rw [tX0_shaped]
  unfold shp
  show (if s = 0 then _ else if s = 1 then _ else if s = 2 then _ else if s = 3 then _ else if s = 4 then _ else if s = 5 then _ else if s = 6 then _ else if s = 7 then _ else _) = _
  by_cases h0 : s = 0
  · rw [if_pos h0, if_pos h0]
    by_cases hv : v = 0
    · rw [if_pos hv]; exact it_t (cmp_eq0.mpr hv) rfl
    · rw [if_neg hv]; exact it_f (fun q => hv (cmp_eq0.mp q)) rfl
  rw [if_neg h0, if_neg h0]
  by_cases h1 : s = 1
  · rw [if_pos h1, if_pos h1]
  rw [if_neg h1, if_neg h1]
  by_cases h2 : s = 2
  · rw [if_pos h2, if_pos h2]
  rw [if_neg h2, if_neg h2]
  by_cases h3 : s = 3
  · rw [if_pos h3, if_pos h3]
  rw [if_neg h3, if_neg h3]
  by_cases h4 : s = 4
  · rw [if_pos h4, if_pos h4]
  rw [if_neg h4, if_neg h4]
  by_cases h5 : s = 5
  · rw [if_pos h5, if_pos h5]
  rw [if_neg h5, if_neg h5]
  by_cases h6 : s = 6
  · rw [if_pos h6, if_pos h6]
    by_cases hv : (v.toInt32 &&& 2147483647) ≤ 2139095040
    · rw [if_pos hv, if_pos hv]
    · rw [if_neg hv, if_neg hv]
  rw [if_neg h6, if_neg h6]
  by_cases h7 : s = 7
  · rw [if_pos h7, if_pos h7]
    refine clI_i (c_isNum v M) ?_
    by_cases hv : (v &&& 9223372036854775807) ≤ (9218868437227405312 : Int64)
    · rw [if_pos hv, if_pos hv]; exact it_f (by decide) rfl
    · rw [if_neg hv, if_neg hv]; exact it_t rfl rfl
  rw [if_neg h7, if_neg h7]
theorem m_shaped (s : Int32) (v : Int64) (M : Mem) : ex 177 3 [pI s, pJ v] M = some (some (pJ (shp s v)), M) := by
  rw [tX12_fromBits]
  unfold shp
  show (if s = 0 then _ else if s = 1 then _ else if s = 2 then _ else if s = 3 then _ else if s = 4 then _ else if s = 5 then _ else if s = 6 then _ else if s = 7 then _ else _) = _
  by_cases h0 : s = 0
  · rw [if_pos h0, if_pos h0]
    by_cases hv : v = 0
    · rw [if_pos hv]; exact it_t (cmp_eq0.mpr hv) rfl
    · rw [if_neg hv]; exact it_f (fun q => hv (cmp_eq0.mp q)) rfl
  rw [if_neg h0, if_neg h0]
  by_cases h1 : s = 1
  · rw [if_pos h1, if_pos h1]
  rw [if_neg h1, if_neg h1]
  by_cases h2 : s = 2
  · rw [if_pos h2, if_pos h2]
  rw [if_neg h2, if_neg h2]
  by_cases h3 : s = 3
  · rw [if_pos h3, if_pos h3]
  rw [if_neg h3, if_neg h3]
  by_cases h4 : s = 4
  · rw [if_pos h4, if_pos h4]
  rw [if_neg h4, if_neg h4]
  by_cases h5 : s = 5
  · rw [if_pos h5, if_pos h5]
  rw [if_neg h5, if_neg h5]
  by_cases h6 : s = 6
  · rw [if_pos h6, if_pos h6]
    by_cases hv : (v.toInt32 &&& 2147483647) ≤ 2139095040
    · rw [if_pos hv, if_pos hv]
    · rw [if_neg hv, if_neg hv]
  rw [if_neg h6, if_neg h6]
  by_cases h7 : s = 7
  · rw [if_pos h7, if_pos h7]
    by_cases hv : (v &&& 9223372036854775807) ≤ (9218868437227405312 : Int64)
    · rw [if_pos hv]; exact it_t (cmp_le0.mpr hv) rfl
    · rw [if_neg hv]; exact it_f (fun q => hv (cmp_le0.mp q)) rfl
  rw [if_neg h7, if_neg h7]
