/-! LISTS OF OBJECTS -/
/-- l is a list of objects, each as P tells of it by what it stands for; all of them made after the two great ones -/
def isO {α : Type} (M : Mem) (x l : Nat) (P : α → Nat → Prop) (xs : List α) : Prop :=
  ∃ as : List Nat, isL M l as ∧ (∀ i j a : Nat, as[i]? = some a → as[j]? = some a → i = j) ∧ as.length = xs.length ∧ ∀ (i a : Nat) (q : α), as[i]? = some a → xs[i]? = some q → x + 57 < a ∧ P q a
section OBJ
variable {α : Type} {M : Mem} {x l : Nat} {P : α → Nat → Prop} {xs : List α}
theorem isO.size (h : isO M x l P xs) : ex 14 1 [pR (some l)] M = some (some (pI (nI xs.length)), M) := by
  obtain ⟨as, h1, -, h3, -⟩ := h
  rw [← h3]
  exact L_size h1
theorem isO.k (h : isO M x l P xs) : kd M l = 0 := by
  obtain ⟨as, h1, -⟩ := h
  exact h1.1
theorem isO.len (h : isO M x l P xs) : xs.length ≤ 1002 := by
  obtain ⟨as, h1, -, h3, -⟩ := h
  rw [← h3]
  exact h1.2.2.1
/-- the i-th, and how the list goes on when it alone changes -/
theorem isO.at {i : Nat} {q : α} (h : isO M x l P xs) (hi : xs[i]? = some q) : ∃ a, ex 16 2 [pR (some l), pI (nI i)] M = some (some (pR (some a)), M) ∧ x + 57 < a ∧ P q a ∧
    (∀ (M' : Mem) (P' : α → Nat → Prop) (q' : α), (∀ as, isL M l as → isL M' l as) → P' q' a → (∀ q b, b ≠ a → x + 57 < b → P q b → P' q b) → isO M' x l P' (xs.set i q')) ∧
    (∀ (j b : Nat), ex 16 2 [pR (some l), pI (nI j)] M = some (some (pR (some b)), M) → j < xs.length → j ≠ i → b ≠ a) := by
  obtain ⟨as, h1, h2, h3, h4⟩ := h
  have hl : i < xs.length := (List.getElem?_eq_some_iff.mp hi).1
  have ha : as[i]? = some as[i] := List.getElem?_eq_getElem (by omega)
  obtain ⟨h5, h6⟩ := h4 i _ q ha hi
  refine ⟨as[i], L_get h1 ha, h5, h6, fun M' P' q' g1 g2 g3 => ⟨as, g1 as h1, h2, by rw [List.length_set]; exact h3, fun j b r hb hr => ?_⟩, fun j b hg hj hne e => ?_⟩
  · rw [List.getElem?_set] at hr
    by_cases e : i = j
    · subst e
      rw [if_pos rfl, if_pos hl] at hr
      cases hr
      rw [ha] at hb
      cases hb
      exact ⟨h5, g2⟩
    · rw [if_neg e] at hr
      obtain ⟨y1, y2⟩ := h4 j b r hb hr
      refine ⟨y1, g3 r b (fun e2 => e ?_) y1 y2⟩
      subst e2
      exact h2 i j _ ha hb
  · have hb : as[j]? = some as[j] := List.getElem?_eq_getElem (by omega)
    rw [L_get h1 hb] at hg
    have hbb : as[j] = b := by
      have := congrArg (fun o => match o with | some (some (.inr (.inr (.inl (some z)))), _) => z | _ => 0) hg
      exact this
    rw [← e, ← hbb] at ha
    exact hne (h2 j i _ hb ha)
/-- nothing of the list has changed, of its objects nothing that P asks -/
theorem isO.mono {M' : Mem} {P' : α → Nat → Prop} (h : isO M x l P xs) (g1 : ∀ as, isL M l as → isL M' l as) (g2 : ∀ q a, x + 57 < a → P q a → P' q a) : isO M' x l P' xs := by
  obtain ⟨as, h1, h2, h3, h4⟩ := h
  exact ⟨as, g1 as h1, h2, h3, fun i a q hi hq => ⟨(h4 i a q hi hq).1, g2 q a (h4 i a q hi hq).1 (h4 i a q hi hq).2⟩⟩
/-- it lies in the list's row -/
def inL (M : Mem) (l k : Nat) : Prop := kd M l = 0 ∧ ∃ d j, gR M 1 l = some d ∧ kd M d = 23 ∧ aR M d j = some k
theorem isL.mem {as : List Nat} {i k : Nat} (h : isL M l as) (hi : as[i]? = some k) : inL M l k := by
  have hl : i < as.length := (List.getElem?_eq_some_iff.mp hi).1
  obtain ⟨h1, -, -, d, h3, -, -, h6, h7⟩ := h
  rcases h7 with h7 | ⟨-, h7, -⟩
  · exact ⟨h1, d, i, h3, h7, h6 i k hi⟩
  · rw [h7] at hl
    exact absurd hl (Nat.not_lt_zero _)
theorem isO.mem {i k : Nat} (h : isO M x l P xs) (hi : i < xs.length) (hg : ex 16 2 [pR (some l), pI (nI i)] M = some (some (pR (some k)), M)) : inL M l k := by
  obtain ⟨as, h1, h2, h3, h4⟩ := h
  have hb : as[i]? = some as[i] := List.getElem?_eq_getElem (by omega)
  rw [L_get h1 hb] at hg
  have hbb : as[i] = k := by
    have := congrArg (fun o => match o with | some (some (.inr (.inr (.inl (some z)))), _) => z | _ => 0) hg
    exact this
  rw [hbb] at hb
  exact h1.mem hb
theorem isO.mono' {M' : Mem} {P' : α → Nat → Prop} (h : isO M x l P xs) (g1 : ∀ as, isL M l as → isL M' l as) (g2 : ∀ q a, x + 57 < a → inL M l a → P q a → P' q a) : isO M' x l P' xs := by
  obtain ⟨as, h1, h2, h3, h4⟩ := h
  exact ⟨as, g1 as h1, h2, h3, fun i a q hi hq => ⟨(h4 i a q hi hq).1, g2 q a (h4 i a q hi hq).1 (h1.mem hi) (h4 i a q hi hq).2⟩⟩
/-- one more: a new object, of kind c -/
theorem isO.add {base a c : Nat} {q : α} (h : isO M x l (fun r b => P r b ∧ b ≠ a) xs) (hv : PIv base M) (hde : ∀ d, sR M 3 = some d → d < mT M) (hLI : LI M) (hn : xs.length ≤ 1001) (hk : kd M a = c) (hc : 1 ≤ c ∧ c ≤ 10) (hx : x + 57 < a) (hP : P q a) (hfr : c = 1 → NoL M a := by intro h; exact absurd h (by decide)) :
    ∃ M', ex 19 2 [pR (some l), pR (some a)] M = some (some (pI 1), M') ∧ LM M M' l ∧ PIv base M' ∧ (∀ P' : α → Nat → Prop, (∀ q b, x + 57 < b → P q b → P' q b) → isO M' x l P' (xs ++ [q])) := by
  obtain ⟨as, h1, h2, h3, h4⟩ := h
  obtain ⟨M', e1, e2, e3⟩ := L_add hv hde hLI h1 (by omega) (a := a) (by omega) (fun z => hfr (by omega))
  have hnin : ∀ i : Nat, as[i]? ≠ some a := by
    intro i hi
    have hil : i < xs.length := by rw [← h3]; exact (List.getElem?_eq_some_iff.mp hi).1
    obtain ⟨y1, y2⟩ := h4 i a _ hi (List.getElem?_eq_getElem hil)
    exact y2.2 rfl
  refine ⟨M', e1, e3, (ex_kp base e1).2 hv, fun P' hP' => ⟨as ++ [a], e2, fun i j b hi hj => ?_, by simp [h3], fun i b r hb hr => ?_⟩⟩
  · by_cases e : i < as.length
    · rw [List.getElem?_append_left e] at hi
      by_cases e' : j < as.length
      · rw [List.getElem?_append_left e'] at hj
        exact h2 i j b hi hj
      · rw [List.getElem?_append_right (by omega)] at hj
        have : j - as.length < 1 := (List.getElem?_eq_some_iff.mp hj).1
        rw [show j - as.length = 0 by omega] at hj
        cases hj
        exact absurd hi (hnin i)
    · rw [List.getElem?_append_right (by omega)] at hi
      have t1 : i - as.length < 1 := (List.getElem?_eq_some_iff.mp hi).1
      rw [show i - as.length = 0 by omega] at hi
      cases hi
      by_cases e' : j < as.length
      · rw [List.getElem?_append_left e'] at hj
        exact absurd hj (hnin j)
      · rw [List.getElem?_append_right (by omega)] at hj
        have : j - as.length < 1 := (List.getElem?_eq_some_iff.mp hj).1
        omega
  · by_cases e : i < as.length
    · rw [List.getElem?_append_left e] at hb
      rw [List.getElem?_append_left (by omega)] at hr
      obtain ⟨y1, y2⟩ := h4 i b r hb hr
      exact ⟨y1, hP' r b y1 y2.1⟩
    · rw [List.getElem?_append_right (by omega)] at hb hr
      have t1 : i - as.length < 1 := (List.getElem?_eq_some_iff.mp hb).1
      rw [show i - as.length = 0 by omega] at hb
      rw [show i - xs.length = 0 by omega] at hr
      cases hb
      cases hr
      exact ⟨hx, hP' q a hx hP⟩
/-- one goes -/
theorem isO.erase {base i : Nat} (h : isO M x l P xs) (hv : PIv base M) (hLI : LI M) (hi : i < xs.length) :
    ∃ v M', ex 20 4 [pR (some l), pI (nI i)] M = some (some (pR v), M') ∧ LM M M' l ∧ PIv base M' ∧ (∀ P' : α → Nat → Prop, (∀ q b, x + 57 < b → P q b → P' q b) → isO M' x l P' (xs.eraseIdx i)) := by
  obtain ⟨as, h1, h2, h3, h4⟩ := h
  obtain ⟨v, M', e1, e2, e3, -⟩ := L_remove hLI h1 (i := i) (by omega)
  refine ⟨v, M', e1, e3, (ex_kp base e1).2 hv, fun P' hP' => ⟨as.eraseIdx i, e2, fun j k b hj hk => ?_, by rw [List.length_eraseIdx_of_lt (by omega), List.length_eraseIdx_of_lt hi, h3], fun j b r hb hr => ?_⟩⟩
  · rw [List.getElem?_eraseIdx] at hj hk
    by_cases e : j < i
    · rw [if_pos e] at hj
      by_cases e' : k < i
      · rw [if_pos e'] at hk
        exact h2 j k b hj hk
      · rw [if_neg e'] at hk
        have := h2 j (k + 1) b hj hk
        omega
    · rw [if_neg e] at hj
      by_cases e' : k < i
      · rw [if_pos e'] at hk
        have := h2 (j + 1) k b hj hk
        omega
      · rw [if_neg e'] at hk
        have := h2 (j + 1) (k + 1) b hj hk
        omega
  · rw [List.getElem?_eraseIdx] at hb hr
    split at hb <;> rename_i e
    · rw [if_pos e] at hr
      obtain ⟨y1, y2⟩ := h4 j b r hb hr
      exact ⟨y1, hP' r b y1 y2⟩
    · rw [if_neg e] at hr
      obtain ⟨y1, y2⟩ := h4 (j + 1) b r hb hr
      exact ⟨y1, hP' r b y1 y2⟩
/-- another object in the place of one -/
theorem isO.put {base i a c : Nat} {q : α} (h : isO M x l P xs) (hv : PIv base M) (hLI : LI M) (hi : i < xs.length) (hk : kd M a = c) (hc : 2 ≤ c ∧ c ≤ 10) (hx : x + 57 < a) (hP : P q a) (hnew : ∀ j b, j ≠ i → ex 16 2 [pR (some l), pI (nI j)] M = some (some (pR (some b)), M) → j < xs.length → b ≠ a) :
    ∃ v M', ex 17 4 [pR (some l), pI (nI i), pR (some a)] M = some (some (pR v), M') ∧ LM M M' l ∧ PIv base M' ∧ gI M' = gI M ∧ gR M' = gR M ∧ mT M' = mT M ∧ (∀ P' : α → Nat → Prop, (∀ q b, x + 57 < b → P q b → P' q b) → isO M' x l P' (xs.set i q)) := by
  obtain ⟨as, h1, h2, h3, h4⟩ := h
  obtain ⟨v, M', e1, e2, e3, e4, -, e6, e7⟩ := L_set hLI h1 (i := i) (a := a) (by omega) (by omega)
  have hnin : ∀ j : Nat, j ≠ i → as[j]? ≠ some a := by
    intro j hj ha
    have hjl : j < as.length := (List.getElem?_eq_some_iff.mp ha).1
    exact hnew j a hj (L_get h1 ha) (by omega) rfl
  refine ⟨v, M', e1, e3, (ex_kp base e1).2 hv, e7, e6, e4, fun P' hP' => ⟨as.set i a, e2, fun j k b hj hk => ?_, by rw [List.length_set, List.length_set, h3], fun j b r hb hr => ?_⟩⟩
  · rw [List.getElem?_set] at hj hk
    by_cases e : i = j
    · by_cases e' : i = k
      · omega
      · rw [if_pos e, if_pos (by omega)] at hj
        rw [if_neg e'] at hk
        cases hj
        exact absurd hk (hnin k (fun q => e' q.symm))
    · rw [if_neg e] at hj
      by_cases e' : i = k
      · rw [if_pos e', if_pos (by omega)] at hk
        cases hk
        exact absurd hj (hnin j (fun q => e q.symm))
      · rw [if_neg e'] at hk
        exact h2 j k b hj hk
  · rw [List.getElem?_set] at hb hr
    by_cases e : i = j
    · rw [if_pos e, if_pos (by omega)] at hb hr
      cases hb
      cases hr
      exact ⟨hx, hP' q a hx hP⟩
    · rw [if_neg e] at hb hr
      obtain ⟨y1, y2⟩ := h4 j b r hb hr
      exact ⟨y1, hP' r b y1 y2⟩
end OBJ
