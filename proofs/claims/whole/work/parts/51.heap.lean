/-! HEAP INSTRUCTIONS over the machine -/
def LG : List Cond := lw_tbl.filter reqK
theorem LG_in {w : Cond} (h : w ∈ lw_tbl) (g : reqK w = true) : w ∈ LG := List.mem_filter.mpr ⟨h, g⟩
theorem LG_of {w : Cond} (h : w ∈ LG) : w ∈ lw_tbl ∧ reqK w = true := List.mem_filter.mp h
theorem cls_at : ∀ c, c < 13 → cls13[c]? = some (cnm c, fT c, nfl c) := by
  intro c hc
  rcases (show c = 0 ∨ c = 1 ∨ c = 2 ∨ c = 3 ∨ c = 4 ∨ c = 5 ∨ c = 6 ∨ c = 7 ∨ c = 8 ∨ c = 9 ∨ c = 10 ∨ c = 11 ∨ c = 12 by omega) with h | h | h | h | h | h | h | h | h | h | h | h | h <;> subst h <;> rfl
theorem cW_all : ∀ c, c < 13 → ∀ w ∈ u_ws (cnm c) (fT c) (nfl c), w ∈ LG := by
  have key : ∀ (C : String) (T : u_T) (n : Nat), (∀ w ∈ u_ws C T n, w ∈ lw_tbl) → ∀ w ∈ u_ws C T n, w ∈ LG := by
    intro C T n h w hw
    refine LG_in (h w hw) ?_
    obtain ⟨k, -, rfl⟩ := List.mem_map.mp hw
    unfold u_lay
    split <;> rfl
  intro c hc
  rcases (show c = 0 ∨ c = 1 ∨ c = 2 ∨ c = 3 ∨ c = 4 ∨ c = 5 ∨ c = 6 ∨ c = 7 ∨ c = 8 ∨ c = 9 ∨ c = 10 ∨ c = 11 ∨ c = 12 by omega) with h | h | h | h | h | h | h | h | h | h | h | h | h <;> subst h
  · exact key _ _ _ cW0_ok
  · exact key _ _ _ cW1_ok
  · exact key _ _ _ cW2_ok
  · exact key _ _ _ cW3_ok
  · exact key _ _ _ cW4_ok
  · exact key _ _ _ cW5_ok
  · exact key _ _ _ cW6_ok
  · exact key _ _ _ cW7_ok
  · exact key _ _ _ cW8_ok
  · exact key _ _ _ cW9_ok
  · exact key _ _ _ cW10_ok
  · exact key _ _ _ cW11_ok
  · exact key _ _ _ cW12_ok
theorem cN_all : ∀ c, c < 13 → ∀ a, a < nfl c → ∀ b, b < nfl c → a ≠ b → (fT c a).2.1 ≠ (fT c b).2.1 := by
  intro c hc
  rcases (show c = 0 ∨ c = 1 ∨ c = 2 ∨ c = 3 ∨ c = 4 ∨ c = 5 ∨ c = 6 ∨ c = 7 ∨ c = 8 ∨ c = 9 ∨ c = 10 ∨ c = 11 ∨ c = 12 by omega) with h | h | h | h | h | h | h | h | h | h | h | h | h <;> subst h
  · exact cN0_ok
  · exact cN1_ok
  · exact cN2_ok
  · exact cN3_ok
  · exact cN4_ok
  · exact cN5_ok
  · exact cN6_ok
  · exact cN7_ok
  · exact cN8_ok
  · exact cN9_ok
  · exact cN10_ok
  · exact cN11_ok
  · exact cN12_ok
theorem cY_all : ∀ c, c < 13 → ∀ k, k < nfl c → parseFieldDescriptor (fT c k).2.2.1 = some (fY c k) := by
  intro c hc
  rcases (show c = 0 ∨ c = 1 ∨ c = 2 ∨ c = 3 ∨ c = 4 ∨ c = 5 ∨ c = 6 ∨ c = 7 ∨ c = 8 ∨ c = 9 ∨ c = 10 ∨ c = 11 ∨ c = 12 by omega) with h | h | h | h | h | h | h | h | h | h | h | h | h <;> subst h
  · exact cY0_ok
  · exact cY1_ok
  · exact cY2_ok
  · exact cY3_ok
  · exact cY4_ok
  · exact cY5_ok
  · exact cY6_ok
  · exact cY7_ok
  · exact cY8_ok
  · exact cY9_ok
  · exact cY10_ok
  · exact cY11_ok
  · exact cY12_ok
def tyS : FieldType → Nat
  | .int => 0
  | .long => 1
  | .boolean => 3
  | .object _ => 2
  | .array _ => 2
  | _ => 9
theorem fS_all : ∀ c, c < 13 → ∀ k, k < nfl c → tyS (fY c k) = fS c k := by decide +kernel
theorem flds_get {M : Mem} {c a k : Nat} (hk : k < nfl c) : (flds M c a)[k]? = some (fv M c a k) := by
  unfold flds
  rw [List.getElem?_map, List.getElem?_range hk]
  rfl
theorem flds_len (M : Mem) (c a : Nat) : (flds M c a).length = nfl c := by simp [flds]
theorem flk_in {r : Nat × Nat × Nat × Nat × Nat} (h : r ∈ flk) : Cond.fieldLink (cnm r.1) r.2.1 (refOf r.1 r.2.2.1 r.2.2.2.1) (fT r.2.2.1 r.2.2.2.1).2.1 (fT r.2.2.1 r.2.2.2.1).2.2.1 ∈ lw_tbl ∧ r.2.2.1 < 13 ∧ r.2.2.2.1 < nfl r.2.2.1 := by
  obtain ⟨h1, h3⟩ := and2 (List.all_eq_true.mp flk_ok r h)
  obtain ⟨h1, h2⟩ := and2 h1
  exact ⟨in_of (of_decide_eq_true h1), of_decide_eq_true h2, of_decide_eq_true h3⟩
theorem ref_same {args : Array Value} {s : State} (hts : ∀ w ∈ lw_tbl, reqK w = true → w.before args s = true) (o c k : Nat) : ∀ x, s.fieldFound? (fT c k).1 (fT c k).2.1 (fT c k).2.2.1 = some x → s.fieldFound? (refOf o c k) (fT c k).2.1 (fT c k).2.2.1 = some x := by
  intro x hx
  unfold refOf
  split
  · split
    · rename_i h
      obtain ⟨rfl, rfl⟩ := h
      exact u_same (hts (.sameField "java/util/ArrayList" "java/util/AbstractList" "modCount" "I") (in_t1 (List.mem_of_getElem? (i := 54) rfl)) rfl) x hx
    · exact hx
  · exact hx
