/-! THE TIE between the pure memory and the machine's heap -/
/-- a field's value -/
def fv (M : Mem) (c a k : Nat) : Value := match fS c k with
  | 1 => .long (gJ M (64 * c + k) a)
  | 2 => va_rf (gR M (64 * c + k) a)
  | _ => .int (gI M (64 * c + k) a)
def flds (M : Mem) (c a : Nat) : List Value := (List.range (nfl c)).map (fv M c a)
def arrc (M : Mem) (a : Nat) : vp_A := match kd M a with
  | 21 => (ln M a, .inr (.inl (aJ M a)))
  | 23 => (ln M a, .inr (.inr (.inr (.inr (aR M a)))))
  | 24 => (ln M a, .inr (.inr (.inr (.inr (aR M a)))))
  | _ => (ln M a, .inl (aI M a))
def cellOf (cA : Nat → ClassId) (M : Mem) (a : Nat) : va_E := if kd M a < 13 then .inr (kd M a, flds M (kd M a) a) else .inl (cA (kd M a), arrc M a)
def wsN (base : Nat) (cA : Nat → ClassId) (M : Mem) (n : Nat) : va_W := (List.range n).map (fun i => (base + i, cellOf cA M (base + i)))
abbrev wsOf (base : Nat) (cA : Nat → ClassId) (M : Mem) : va_W := wsN base cA M (mT M - base)
theorem wsN_get {base : Nat} {cA : Nat → ClassId} {M : Mem} {n i : Nat} (h : i < n) : (wsN base cA M n)[i]? = some (base + i, cellOf cA M (base + i)) := by
  unfold wsN
  rw [List.getElem?_map, List.getElem?_range h]
  rfl
theorem ws_get {base : Nat} {cA : Nat → ClassId} {M : Mem} {a : Nat} (h1 : base ≤ a) (h2 : a < mT M) : (wsOf base cA M)[a - base]? = some (a, cellOf cA M a) := by
  have h := wsN_get (base := base) (cA := cA) (M := M) (n := mT M - base) (i := a - base) (by omega)
  rw [show base + (a - base) = a by omega] at h
  exact h
theorem ws_D (base : Nat) (cA : Nat → ClassId) (M : Mem) : va_D (fun q => base ≤ q) (wsOf base cA M) := by
  have key : ∀ (i : Nat) (p : Nat × va_E), (wsOf base cA M)[i]? = some p → p.1 = base + i := by
    intro i p h
    have hl : i < mT M - base := by
      have := (List.getElem?_eq_some_iff.mp h).1
      simpa [wsOf, wsN] using this
    rw [wsN_get hl] at h
    cases h
    rfl
  refine ⟨fun i j p q hi hj he => ?_, fun k q h => ?_⟩
  · have h1 := key i p hi
    have h2 := key j q hj
    omega
  · have := key k q h
    show base ≤ q.1
    omega
/-- one cell has changed -/
theorem ws_set {base : Nat} {cA : Nat → ClassId} {M M' : Mem} {a : Nat} (h1 : base ≤ a) (h2 : a < mT M) (ht : mT M' = mT M) (hk : ∀ b, b ≠ a → cellOf cA M' b = cellOf cA M b) : wsOf base cA M' = (wsOf base cA M).set (a - base) (a, cellOf cA M' a) := by
  apply List.ext_getElem?
  intro i
  rw [List.getElem?_set]
  by_cases hi : i < mT M - base
  · rw [wsN_get (by rw [ht]; exact hi)]
    by_cases he : a - base = i
    · have hb : base + i = a := by omega
      simp [he, hb, wsN, hi]
    · rw [if_neg he, wsN_get hi, hk _ (by omega)]
  · have l1 : (wsOf base cA M')[i]? = none := by
      rw [List.getElem?_eq_none_iff]
      simp only [wsOf, wsN, List.length_map, List.length_range]
      omega
    have l2 : (wsOf base cA M)[i]? = none := by
      rw [List.getElem?_eq_none_iff]
      simp only [wsOf, wsN, List.length_map, List.length_range]
      omega
    rw [l1, l2]
    by_cases he : a - base = i
    · omega
    · rw [if_neg he]
/-- one cell more -/
theorem ws_push {base : Nat} {cA : Nat → ClassId} {M M' : Mem} (h1 : base ≤ mT M) (ht : mT M' = mT M + 1) (hk : ∀ b, b ≠ mT M → cellOf cA M' b = cellOf cA M b) : wsOf base cA M' = wsOf base cA M ++ [(mT M, cellOf cA M' (mT M))] := by
  have e : mT M' - base = (mT M - base) + 1 := by omega
  unfold wsOf wsN
  rw [e, List.range_succ, List.map_append]
  congr 1
  · apply List.map_congr_left
    intro i hi
    have := List.mem_range.mp hi
    rw [hk _ (by omega)]
  · simp only [List.map_cons, List.map_nil]
    rw [show base + (mT M - base) = mT M by omega]
/-- pure invariants: own kinds lie between base and top; what lists' arrays hold are objects -/
def PIv (base : Nat) (M : Mem) : Prop := base ≤ mT M ∧ (∀ a, kd M a ≤ 24 → base ≤ a ∧ a < mT M) ∧ (∀ a, kd M a = 23 → ∀ j y, aR M a j = some y → 1 ≤ kd M y ∧ kd M y ≤ 10)
/-- what grows, what stays -/
def Mo (M M' : Mem) : Prop := mT M ≤ mT M' ∧ mS M ≤ mS M' ∧ sR M' = sR M ∧ ∀ a, 25 ≤ kd M' a → kd M' a = kd M a ∧ ln M' a = ln M a ∧ aI M' a = aI M a ∧ aJ M' a = aJ M a
theorem Mo.rf (M : Mem) : Mo M M := ⟨Nat.le_refl _, Nat.le_refl _, rfl, fun _ _ => ⟨rfl, rfl, rfl, rfl⟩⟩
theorem Mo.tr {M M1 M2 : Mem} (h : Mo M M1) (g : Mo M1 M2) : Mo M M2 := by
  refine ⟨Nat.le_trans h.1 g.1, Nat.le_trans h.2.1 g.2.1, g.2.2.1.trans h.2.2.1, fun a ha => ?_⟩
  obtain ⟨e1, e2, e3, e4⟩ := g.2.2.2 a ha
  obtain ⟨f1, f2, f3, f4⟩ := h.2.2.2 a (by rw [← e1]; exact ha)
  exact ⟨e1.trans f1, e2.trans f2, e3.trans f3, e4.trans f4⟩
/-- both kept -/
def Kp2 (base : Nat) (M M' : Mem) : Prop := Mo M M' ∧ (PIv base M → PIv base M')
theorem Kp2.rf (base : Nat) (M : Mem) : Kp2 base M M := ⟨Mo.rf M, id⟩
theorem Kp2.tr {base : Nat} {M M1 M2 : Mem} (h : Kp2 base M M1) (g : Kp2 base M1 M2) : Kp2 base M M2 := ⟨h.1.tr g.1, fun x => g.2 (h.2 x)⟩
theorem k_sI (base : Nat) (M : Mem) (k a : Nat) (v : Int32) : Kp2 base M (sI M k a v) := Kp2.rf base M
theorem k_sJ (base : Nat) (M : Mem) (k a : Nat) (v : Int64) : Kp2 base M (sJ M k a v) := Kp2.rf base M
theorem k_sF (base : Nat) (M : Mem) (k a : Nat) (v : Option Nat) : Kp2 base M (sF M k a v) := Kp2.rf base M
theorem k_uI (base : Nat) (M : Mem) (a : Nat) (f : Nat → Int32) (h : kd M a ≤ 24) : Kp2 base M (uI M a f) :=
  ⟨⟨Nat.le_refl _, Nat.le_refl _, rfl, fun b hb => ⟨rfl, rfl, if_neg (fun e => by subst e; have : 25 ≤ kd M b := hb; omega), rfl⟩⟩, id⟩
theorem k_uJ (base : Nat) (M : Mem) (a : Nat) (f : Nat → Int64) (h : kd M a ≤ 24) : Kp2 base M (uJ M a f) :=
  ⟨⟨Nat.le_refl _, Nat.le_refl _, rfl, fun b hb => ⟨rfl, rfl, rfl, if_neg (fun e => by subst e; have : 25 ≤ kd M b := hb; omega)⟩⟩, id⟩
theorem k_uR (base : Nat) (M : Mem) (a : Nat) (f : Nat → Option Nat) (h : kd M a ≤ 24) (hf : PIv base M → kd M a = 23 → ∀ j y, f j = some y → 1 ≤ kd M y ∧ kd M y ≤ 10) : Kp2 base M (uR M a f) := by
  refine ⟨⟨Nat.le_refl _, Nat.le_refl _, rfl, fun b hb => ⟨rfl, rfl, rfl, rfl⟩⟩, fun g => ⟨g.1, g.2.1, fun b hb j y hy => ?_⟩⟩
  by_cases e : b = a
  · subst e
    have e2 : aR (uR M b f) b = f := if_pos rfl
    rw [e2] at hy
    exact hf g hb j y hy
  · have e2 : aR (uR M a f) b = aR M b := if_neg e
    rw [e2] at hy
    exact g.2.2 b hb j y hy
theorem k_nO (base : Nat) (M : Mem) (c n : Nat) (hc : c ≤ 12) : Kp2 base M (nO M c n) := by
  have hk : ∀ b, kd (nO M c n) b = if b = mT M then c else kd M b := fun b => rfl
  refine ⟨⟨Nat.le_succ _, Nat.le_add_right _ _, rfl, fun b hb => ?_⟩, fun g => ⟨Nat.le_trans g.1 (Nat.le_succ _), fun b hb => ?_, fun b hb j y hy => ?_⟩⟩
  · rw [hk] at hb
    split at hb
    · omega
    · rename_i h
      exact ⟨if_neg h, rfl, rfl, rfl⟩
  · rw [hk] at hb
    show base ≤ b ∧ b < mT M + 1
    split at hb
    · rename_i h; have := g.1; omega
    · have := g.2.1 b hb; omega
  · rw [hk] at hb
    split at hb
    · omega
    · have h1 := g.2.2 b hb j y hy
      have h2 := g.2.1 y (by omega)
      rw [hk, if_neg (by omega)]
      exact h1
theorem k_nA (base : Nat) (M : Mem) (c n : Nat) (hc : 20 ≤ c) (hc2 : c ≤ 24) : Kp2 base M (nA M c n) := by
  have hk : ∀ b, kd (nA M c n) b = if b = mT M then c else kd M b := fun b => rfl
  refine ⟨⟨Nat.le_succ _, Nat.le_add_right _ _, rfl, fun b hb => ?_⟩, fun g => ⟨Nat.le_trans g.1 (Nat.le_succ _), fun b hb => ?_, fun b hb j y hy => ?_⟩⟩
  · rw [hk] at hb
    split at hb
    · omega
    · rename_i h
      exact ⟨if_neg h, if_neg h, if_neg h, if_neg h⟩
  · rw [hk] at hb
    show base ≤ b ∧ b < mT M + 1
    split at hb
    · rename_i h; have := g.1; omega
    · have := g.2.1 b hb; omega
  · have hr : aR (nA M c n) b = if b = mT M then (fun _ => none) else aR M b := rfl
    rw [hr] at hy
    rw [hk] at hb
    split at hy
    · cases hy
    · rename_i h
      rw [if_neg h] at hb
      have h1 := g.2.2 b hb j y hy
      have h2 := g.2.1 y (by omega)
      rw [hk, if_neg (by omega)]
      exact h1
