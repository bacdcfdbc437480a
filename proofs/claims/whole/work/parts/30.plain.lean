/-! LOCALS, and plain instructions over the machine -/
theorem va_rf_cat (r : Option Nat) : (va_rf r).category = 1 := by cases r <;> rfl
theorem pv_cat (v : PV) : (pv v).category = wd v := by rcases v with x | x | x | x | x <;> first | rfl | exact va_rf_cat x
def lvO : Nat → List (Option PV) → List (Nat × Value)
  | _, [] => []
  | k, none :: t => lvO (k + 1) t
  | k, some v :: t => (k, pv v) :: lvO (k + 1) t
theorem lvO_mem {i : Nat} {v : PV} : ∀ {ls : List (Option PV)} {k : Nat}, lget ls i = some v → (k + i, pv v) ∈ lvO k ls := by
  induction i with
  | zero =>
    intro ls k h
    cases ls with
    | nil => cases h
    | cons x t =>
      have h : x = some v := h
      subst h
      exact List.mem_cons_self
  | succ i ih =>
    intro ls k h
    cases ls with
    | nil => cases h
    | cons x t =>
      have h : lget t i = some v := h
      have := ih (ls := t) (k := k + 1) h
      rw [show k + 1 + i = k + (i + 1) by omega] at this
      cases x with
      | none => exact this
      | some w => exact List.mem_cons_of_mem _ this
theorem lvO_of {q : Nat × Value} : ∀ {ls : List (Option PV)} {k : Nat}, q ∈ lvO k ls → ∃ j v, lget ls j = some v ∧ q = (k + j, pv v) := by
  intro ls
  induction ls with
  | nil => intro k h; exact absurd h List.not_mem_nil
  | cons x t ih =>
    intro k h
    cases x with
    | none =>
      obtain ⟨j, v, h1, h2⟩ := ih (k := k + 1) h
      exact ⟨j + 1, v, h1, by rw [h2]; congr 1; omega⟩
    | some w =>
      rcases List.mem_cons.mp h with h | h
      · exact ⟨0, w, rfl, h⟩
      · obtain ⟨j, v, h1, h2⟩ := ih (k := k + 1) h
        exact ⟨j + 1, v, h1, by rw [h2]; congr 1; omega⟩
theorem lget_lset {w : Option PV} {v : PV} {i : Nat} : ∀ {j : Nat} {ls : List (Option PV)}, lget (lset ls i w) j = some v → (j = i ∧ w = some v) ∨ (j ≠ i ∧ lget ls j = some v) := by
  induction i with
  | zero =>
    intro j ls h
    cases ls with
    | nil => cases h
    | cons x t => cases j with
      | zero => exact Or.inl ⟨rfl, h⟩
      | succ j => exact Or.inr ⟨by omega, h⟩
  | succ i ih =>
    intro j ls h
    cases ls with
    | nil => cases h
    | cons x t => cases j with
      | zero => exact Or.inr ⟨by omega, h⟩
      | succ j =>
        rcases ih (j := j) (ls := t) h with ⟨h1, h2⟩ | ⟨h1, h2⟩
        · exact Or.inl ⟨by omega, h2⟩
        · exact Or.inr ⟨by omega, h2⟩
theorem lget_lkill {i j : Nat} {v : PV} {ls : List (Option PV)} (h : lget (lkill ls i) j = some v) : lget ls j = some v ∧ ¬ (j + 1 = i ∧ wd v = 2) := by
  cases i with
  | zero => exact ⟨h, by omega⟩
  | succ n =>
    simp only [lkill] at h
    split at h
    · rename_i x e
      rcases lget_lset h with ⟨-, h2⟩ | ⟨h1, h2⟩
      · cases h2
      · exact ⟨h2, by omega⟩
    · rename_i x e
      rcases lget_lset h with ⟨-, h2⟩ | ⟨h1, h2⟩
      · cases h2
      · exact ⟨h2, by omega⟩
    · rename_i e1 e2
      refine ⟨h, fun g => ?_⟩
      have hj : j = n := by omega
      subst hj
      rcases v with x | x | x | x | x
      · exact absurd g.2 (by show ¬ 1 = 2; omega)
      · exact e1 x h
      · exact absurd g.2 (by show ¬ 1 = 2; omega)
      · exact absurd g.2 (by show ¬ 1 = 2; omega)
      · exact e2 x h
theorem has_sub {ls : Array Slot} {n : Nat} {l l' : List (Nat × Value)} (h : lv_has ls n l) (hs : ∀ q ∈ l', q ∈ l) : lv_has ls n l' := ⟨h.1, h.2.1, fun q hq => h.2.2 q (hs q hq)⟩
theorem has_lst1 {lsA : Array Slot} {n i : Nat} {v : PV} {ls : List (Option PV)} (h : lv_has lsA n ((i, pv v) :: (lvO 0 ls).filter (fun q => !(q.1 == i) && !(q.1 + 1 == i && q.2.category == 2)))) : lv_has lsA n (lvO 0 (lst1 ls i v)) := by
  refine has_sub h fun q hq => ?_
  obtain ⟨j, w, h1, h2⟩ := lvO_of hq
  rw [Nat.zero_add] at h2
  rcases lget_lset h1 with ⟨e1, e2⟩ | ⟨e1, e2⟩
  · cases e2
    rw [h2, e1]
    exact List.mem_cons_self
  · obtain ⟨g1, g2⟩ := lget_lkill e2
    refine List.mem_cons_of_mem _ (List.mem_filter.mpr ⟨?_, ?_⟩)
    · have := lvO_mem (k := 0) g1
      rw [Nat.zero_add] at this
      rw [h2]
      exact this
    · rw [h2]
      simp only [pv_cat]
      simp only [Bool.and_eq_true, Bool.not_eq_true', beq_eq_false_iff_ne, Bool.and_eq_false_iff]
      refine ⟨e1, ?_⟩
      by_cases z : j + 1 = i
      · exact Or.inr (by intro z2; exact g2 ⟨z, z2⟩)
      · exact Or.inl z
theorem has_lst2 {lsA : Array Slot} {n i : Nat} {v : PV} {ls : List (Option PV)} (h : lv_has lsA n ((i, pv v) :: (lvO 0 ls).filter (fun q => !(q.1 == i) && (!(q.1 == i + 1) && !(q.1 + 1 == i && q.2.category == 2))))) : lv_has lsA n (lvO 0 (lst2 ls i v)) := by
  refine has_sub h fun q hq => ?_
  obtain ⟨j, w, h1, h2⟩ := lvO_of hq
  rw [Nat.zero_add] at h2
  rcases lget_lset h1 with ⟨e1, e2⟩ | ⟨e0, e2⟩
  · cases e2
  · rcases lget_lset e2 with ⟨e1, e2⟩ | ⟨e1, e2⟩
    · cases e2
      rw [h2, e1]
      exact List.mem_cons_self
    · obtain ⟨g1, g2⟩ := lget_lkill e2
      refine List.mem_cons_of_mem _ (List.mem_filter.mpr ⟨?_, ?_⟩)
      · have := lvO_mem (k := 0) g1
        rw [Nat.zero_add] at this
        rw [h2]
        exact this
      · rw [h2]
        simp only [pv_cat]
        simp only [Bool.and_eq_true, Bool.not_eq_true', beq_eq_false_iff_ne, Bool.and_eq_false_iff]
        refine ⟨e1, e0, ?_⟩
        by_cases z : j + 1 = i
        · exact Or.inr (by intro z2; exact g2 ⟨z, z2⟩)
        · exact Or.inl z
theorem has_clrs {lsA : Array Slot} {n : Nat} (ms : List Nat) : ∀ {ls : List (Option PV)}, lv_has lsA n (lvO 0 ls) → lv_has lsA n (lvO 0 (clrs ms ls)) := by
  induction ms with
  | nil => intro ls h; exact h
  | cons i t ih =>
    intro ls h
    refine ih (has_sub h fun q hq => ?_)
    obtain ⟨j, w, h1, h2⟩ := lvO_of hq
    rcases lget_lset h1 with ⟨-, e2⟩ | ⟨-, e2⟩
    · cases e2
    · rw [h2]; exact lvO_mem e2
theorem has_get {lsA : Array Slot} {n i : Nat} {v : PV} {ls : List (Option PV)} (h : lv_has lsA n (lvO 0 ls)) (g : lget ls i = some v) : lsA[i]? = some (.val (pv v)) := by
  have := h.2.2 _ (lvO_mem (k := 0) g)
  rwa [Nat.zero_add] at this
/-- how the call's arguments lie -/
theorem lay_has (as : List PV) (n : Nat) (h : (lg_sl (as.map pv)).length ≤ n) : lv_has ((lg_sl (as.map pv) ++ List.replicate (n - (lg_sl (as.map pv)).length) Slot.unset).toArray) n (lvO 0 (ent as n)) := by
  refine has_sub (lv_entry (as.map pv) h) fun q hq => ?_
  have key : ∀ (as : List PV) (k n : Nat) (q : Nat × Value), q ∈ lvO k (fill (lay as) n) → q ∈ lv_args k (as.map pv) := by
    intro as
    induction as with
    | nil =>
      intro k n q hq
      exfalso
      obtain ⟨j, v, h1, -⟩ := lvO_of hq
      have : ∀ (n j : Nat), lget (pads n) j ≠ some v := by
        intro n
        induction n with
        | zero => intro j h; cases h
        | succ n ih => intro j h; cases j with
          | zero => cases h
          | succ j => exact ih j h
      exact this n j h1
    | cons a t ih =>
      intro k n q hq
      have stp : ∀ (v : PV) (w : Nat), wd v = w → ∀ (L : List (Option PV)), (w = 1 → L = lay t) → (w = 2 → L = none :: lay t) → (w = 1 ∨ w = 2) → q ∈ lvO k (fill (some v :: L) n) → q ∈ lv_args k (pv v :: t.map pv) := by
        intro v w hw L h1 h2 h12 hq
        show q ∈ (k, pv v) :: lv_args (if (pv v).category = 2 then k + 2 else k + 1) (t.map pv)
        rw [pv_cat, hw]
        rcases h12 with rfl | rfl
        · rw [h1 rfl] at hq
          rw [if_neg (by omega)]
          cases n with
          | zero =>
            rcases List.mem_cons.mp hq with h | h
            · rw [h]; exact List.mem_cons_self
            · refine List.mem_cons_of_mem _ (ih (k + 1) 0 q ?_)
              have : fill (lay t) 0 = lay t := by cases lay t <;> rfl
              rw [this]; exact h
          | succ n =>
            rcases List.mem_cons.mp hq with h | h
            · rw [h]; exact List.mem_cons_self
            · exact List.mem_cons_of_mem _ (ih (k + 1) n q h)
        · rw [h2 rfl] at hq
          rw [if_pos rfl]
          cases n with
          | zero =>
            rcases List.mem_cons.mp hq with h | h
            · rw [h]; exact List.mem_cons_self
            · refine List.mem_cons_of_mem _ (ih (k + 2) 0 q ?_)
              have : fill (lay t) 0 = lay t := by cases lay t <;> rfl
              rw [this]; exact h
          | succ n =>
            rcases List.mem_cons.mp hq with h | h
            · rw [h]; exact List.mem_cons_self
            · refine List.mem_cons_of_mem _ ?_
              cases n with
              | zero =>
                refine ih (k + 2) 0 q ?_
                have : fill (lay t) 0 = lay t := by cases lay t <;> rfl
                rw [this]; exact h
              | succ n => exact ih (k + 2) n q h
      rcases a with x | x | x | x | x
      · exact stp (.inl x) 1 rfl _ (fun _ => rfl) (fun h => by omega) (Or.inl rfl) hq
      · exact stp (.inr (.inl x)) 2 rfl _ (fun h => by omega) (fun _ => rfl) (Or.inr rfl) hq
      · exact stp (.inr (.inr (.inl x))) 1 rfl _ (fun _ => rfl) (fun h => by omega) (Or.inl rfl) hq
      · exact stp (.inr (.inr (.inr (.inl x)))) 1 rfl _ (fun _ => rfl) (fun h => by omega) (Or.inl rfl) hq
      · exact stp (.inr (.inr (.inr (.inr x)))) 2 rfl _ (fun h => by omega) (fun _ => rfl) (Or.inr rfl) hq
  exact key as 0 n q hq
