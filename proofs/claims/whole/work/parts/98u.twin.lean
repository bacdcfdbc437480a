/-! OBJECTS THAT ARE THE SAME: what a twin is -/
section TW
variable {E : List TE} {R : List TR} {F : List TF} {W : List TW} {O O' : List TO}
def kv (tw : Nat → Nat) (s : Int32) (v : Int64) : Int64 := if s = 11 ∧ v ≠ -1 then lN (tw v.toInt32.toNatClampNeg) else v
def kvL (tw : Nat → Nat) (ps : List TP) (vs : List Int64) : List Int64 := (ps.zip vs).map (fun c => kv tw c.1.2.1 c.2)
theorem keyO_eq (tw : Nat → Nat) (q : TO) : keyO R O tw q = (q.1, kvL tw (R.getD q.1 ([], [], 0)).1 q.2.1) := rfl
def twf (R : List TR) (O : List TO) (i : Nat) : Nat := (twT R O (i + 1)).getD i 0
theorem twT_len : ∀ n, (twT R O n).length = n
  | 0 => rfl
  | n + 1 => by
    unfold twT
    rw [List.length_append, twT_len n]
    rfl
theorem twT_get {i : Nat} : ∀ n, i < n → (twT R O n).getD i 0 = twf R O i := by
  intro n
  induction n with
  | zero => intro h; omega
  | succ n ih =>
    intro h
    by_cases c : i < n
    · rw [← ih c]
      show (twT R O n ++ _).getD i 0 = _
      rw [List.getD_eq_getElem?_getD, List.getElem?_append_left (by rw [twT_len]; exact c), ← List.getD_eq_getElem?_getD]
    · have : i = n := by omega
      subst this
      rfl
theorem lN_back {o : Nat} (h : o < 2147483648) : (lN o).toInt32.toNatClampNeg = o := by rw [lN_i, nI_clamp h]
theorem kv_cg {tw tw' : Nat → Nat} {s : Int32} {v : Int64} {o : Nat} (ho : o < 2147483648) (h : s = 11 → v = -1 ∨ ∃ o', o' < o ∧ v = lN o') (ht : ∀ i, i < o → tw i = tw' i) : kv tw s v = kv tw' s v := by
  unfold kv
  by_cases c : s = 11 ∧ v ≠ -1
  · rw [if_pos c, if_pos c]
    rcases h c.1 with z | ⟨o', z1, z2⟩
    · exact absurd z c.2
    · rw [z2, lN_back (by omega), ht o' z1]
  · rw [if_neg c, if_neg c]
theorem wfO.v11 {nT o p : Nat} {q : TO} {rc : TR} {t : TP} {v : Int64} (hw : wfO E R F W O nT) (hq : O[o]? = some q) (hr : R[q.1]? = some rc) (ht : rc.1[p]? = some t) (hv : q.2.1[p]? = some v) (h11 : t.2.1 = 11) : v = -1 ∨ ∃ o', o' < o ∧ v = lN o' := by
  obtain ⟨rc', y1, y2, y3, y4⟩ := hw o q hq
  rw [hr] at y1
  cases y1
  rcases (y4 p t v ht hv).2.2.2.2 h11 with z | ⟨o', q', g, fq, z1, z2, z3, -⟩
  · exact Or.inl z
  · exact Or.inr ⟨o', z1, z3⟩
theorem key_cg {nT o : Nat} {q : TO} {tw tw' : Nat → Nat} (hw : wfO E R F W O nT) (hl : O.length ≤ 164) (hq : O[o]? = some q) (ht : ∀ i, i < o → tw i = tw' i) : keyO R O tw q = keyO R O tw' q := by
  have ho : o < O.length := (List.getElem?_eq_some_iff.mp hq).1
  rw [keyO_eq, keyO_eq]
  unfold kvL
  congr 1
  apply List.map_congr_left
  intro c hc
  obtain ⟨p, hp⟩ := List.getElem?_of_mem hc
  obtain ⟨rc, y1, -⟩ := hw o q hq
  have er : (R.getD q.1 ([], [], 0)).1 = rc.1 := by rw [List.getD_eq_getElem?_getD, y1]; rfl
  rw [er, List.getElem?_zip_eq_some] at hp
  exact kv_cg (o := o) (by omega) (fun h => hw.v11 hq y1 hp.1 hp.2 h) ht
def ky (R : List TR) (O : List TO) (k : Nat) : Nat × List Int64 := keyO R O (twf R O) (O.getD k (0, [], 0, 0))
theorem ky_eq {k : Nat} {q : TO} (hq : O[k]? = some q) : ky R O k = keyO R O (twf R O) q := by
  unfold ky
  rw [List.getD_eq_getElem?_getD, hq]
  rfl
theorem twf_spec {nT n : Nat} (hw : wfO E R F W O nT) (hl : O.length ≤ 164) (hn : n < O.length) : twf R O n ≤ n ∧ ky R O (twf R O n) = ky R O n ∧ ∀ j, j < twf R O n → ky R O j ≠ ky R O n := by
  have hk : ∀ k, k ≤ n → keyO R O (fun i => (twT R O n).getD i 0) (O.getD k (0, [], 0, 0)) = ky R O k := fun k hk => by
    have hq : O[k]? = some O[k] := List.getElem?_eq_getElem (by omega)
    rw [ky_eq hq, List.getD_eq_getElem?_getD, hq]
    exact key_cg hw hl hq (fun i hi => twT_get n (by omega))
  have e : twf R O n = ((List.range n).find? (fun k => keyO R O (fun i => (twT R O n).getD i 0) (O.getD k (0, [], 0, 0)) == keyO R O (fun i => (twT R O n).getD i 0) (O.getD n (0, [], 0, 0)))).getD n := by
    unfold twf
    show (twT R O n ++ _).getD n 0 = _
    rw [List.getD_eq_getElem?_getD, List.getElem?_append_right (by rw [twT_len]; exact Nat.le_refl _), twT_len, Nat.sub_self]
    rfl
  cases hf : (List.range n).find? (fun k => keyO R O (fun i => (twT R O n).getD i 0) (O.getD k (0, [], 0, 0)) == keyO R O (fun i => (twT R O n).getD i 0) (O.getD n (0, [], 0, 0))) with
  | none =>
    rw [hf] at e
    have e : twf R O n = n := e
    rw [e]
    refine ⟨Nat.le_refl _, rfl, fun j hj q => ?_⟩
    rw [List.find?_range_eq_none] at hf
    have := hf j hj
    rw [hk j (by omega), hk n (by omega), q] at this
    simp at this
  | some k =>
    rw [hf] at e
    have e : twf R O n = k := e
    rw [e]
    rw [List.find?_range_eq_some] at hf
    obtain ⟨f1, f2, f3⟩ := hf
    have hkn : k < n := List.mem_range.mp f2
    rw [hk k (by omega), hk n (by omega)] at f1
    refine ⟨by omega, by simpa using f1, fun j hj q => ?_⟩
    have := f3 j hj
    rw [hk j (by omega), hk n (by omega), q] at this
    simp at this
theorem twf_twf {nT n : Nat} (hw : wfO E R F W O nT) (hl : O.length ≤ 164) (hn : n < O.length) : twf R O (twf R O n) = twf R O n := by
  obtain ⟨a1, a2, a3⟩ := twf_spec hw hl hn
  obtain ⟨b1, b2, b3⟩ := twf_spec hw hl (show twf R O n < O.length by omega)
  have c1 : ¬ twf R O (twf R O n) < twf R O n := fun z => a3 _ z (b2.trans a2)
  omega
/-- the same objects but for twins, lines -/
def shO (O O' : List TO) : Prop := O'.length = O.length ∧ ∀ (o : Nat) (q : TO), O[o]? = some q → ∃ q', O'[o]? = some q' ∧ q'.1 = q.1 ∧ q'.2.1 = q.2.1
theorem shO.rf : shO O O := ⟨rfl, fun _ q h => ⟨q, h, rfl, rfl⟩⟩
theorem shO.tr {O'' : List TO} (h : shO O O') (g : shO O' O'') : shO O O'' := ⟨g.1.trans h.1, fun e q hq => by
  obtain ⟨q1, a1, a2, a3⟩ := h.2 e q hq
  obtain ⟨q2, b1, b2, b3⟩ := g.2 e q1 a1
  exact ⟨q2, b1, b2.trans a2, b3.trans a3⟩⟩
theorem shO.set {e : Nat} {q q' : TO} (hq : O[e]? = some q) (h : q'.1 = q.1) (h2 : q'.2.1 = q.2.1) : shO O (O.set e q') := by
  refine ⟨List.length_set, fun i r hr => ?_⟩
  rw [List.getElem?_set]
  by_cases c : e = i
  · subst c
    rw [hq] at hr
    cases hr
    rw [if_pos rfl, if_pos (List.getElem?_eq_some_iff.mp hq).1]
    exact ⟨q', rfl, h, h2⟩
  · rw [if_neg c]
    exact ⟨r, hr, rfl, rfl⟩
theorem shO.back {r : Nat} {q' : TO} (h : shO O O') (hq : O'[r]? = some q') : ∃ q, O[r]? = some q ∧ q'.1 = q.1 ∧ q'.2.1 = q.2.1 := by
  have hr : r < O'.length := (List.getElem?_eq_some_iff.mp hq).1
  rw [h.1] at hr
  obtain ⟨q'', a1, a2, a3⟩ := h.2 r O[r] (List.getElem?_eq_getElem hr)
  rw [hq] at a1
  cases a1
  exact ⟨_, List.getElem?_eq_getElem hr, a2, a3⟩
theorem shO.getD (h : shO O O') (i : Nat) : (O'.getD i (0, [], 0, 0)).1 = (O.getD i (0, [], 0, 0)).1 ∧ (O'.getD i (0, [], 0, 0)).2.1 = (O.getD i (0, [], 0, 0)).2.1 := by
  rw [List.getD_eq_getElem?_getD, List.getD_eq_getElem?_getD]
  cases hr : O[i]? with
  | none =>
    have : O'[i]? = none := by
      rw [List.getElem?_eq_none_iff] at hr ⊢
      rw [h.1]
      exact hr
    rw [this]
    exact ⟨rfl, rfl⟩
  | some q =>
    obtain ⟨q', a1, a2, a3⟩ := h.2 i q hr
    rw [a1]
    exact ⟨a2, a3⟩
theorem keyO_sh {tw : Nat → Nat} {q q' : TO} (h1 : q'.1 = q.1) (h2 : q'.2.1 = q.2.1) : keyO R O' tw q' = keyO R O tw q := by
  rw [keyO_eq, keyO_eq, h1, h2]
theorem twT_sh (h : shO O O') : ∀ n, twT R O' n = twT R O n := by
  intro n
  induction n with
  | zero => rfl
  | succ n ih =>
    unfold twT
    rw [ih]
    congr 1
    have e : ∀ k, keyO R O' (fun i => (twT R O n).getD i 0) (O'.getD k (0, [], 0, 0)) = keyO R O (fun i => (twT R O n).getD i 0) (O.getD k (0, [], 0, 0)) := fun k => keyO_sh (h.getD k).1 (h.getD k).2
    simp only [e]
theorem twf_sh (h : shO O O') (i : Nat) : twf R O' i = twf R O i := by unfold twf; rw [twT_sh h]
end TW
