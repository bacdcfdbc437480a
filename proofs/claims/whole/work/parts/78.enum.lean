/-! ENUMERATIONS -/
theorem isO.nil {α : Type} {M : Mem} {x l : Nat} {P : α → Nat → Prop} (h : isL M l []) : isO M x l P [] := ⟨[], h, fun i j a hi => by simp at hi, rfl, fun i a q hi => by simp at hi⟩
/-- a new list -/
abbrev nL (M : Mem) : Mem := sF (sI (nO M 0 3) 0 (mT M) 0) 1 (mT M) (sR M 3)
theorem newList {x n : Nat} {K L AI AJ : Nat → Prop} {M M1 : Mem} (f : Fr x K L AI AJ n M M1) (hB : XB x M1) : ex 11 1 [pR (some (mT M1))] (nO M1 0 3) = some (none, nL M1) ∧ Fr x K L AI AJ (n + 1) M (nL M1) ∧ isL (nL M1) (mT M1) [] ∧ mT (nL M1) = mT M1 + 1 := by
  have k0 : kd (nO M1 0 3) (mT M1) = 0 := if_pos rfl
  have e9 : ex 9 1 [pR (some (mT M1))] (nO M1 0 3) = some (none, nO M1 0 3) := by
    rw [tJxa1e45_init_da8c8]
    exact nn_i rfl rfl
  have e10 : ex 10 1 [pR (some (mT M1))] (nO M1 0 3) = some (none, sI (nO M1 0 3) 0 (mT M1) 0) := by
    rw [tJxc12de_init_da8c8]
    exact rd_i rfl k0 (clV_i e9 (rd_i rfl k0 (bd_i rfl)))
  have hT := f.fT
  have hdd := hB.de
  refine ⟨?_, ?_, ?_, rfl⟩
  · rw [tJx4a65c_init_da8c8]
    exact rd_i rfl k0 (clV_i e10 (rd_i rfl k0 (bd_i rfl)))
  · refine ((f.bO (c0 := 0) (n0 := 3) (by omega) (by omega)).bI (Or.inr hT)).bF (Or.inr ⟨hT, Or.inr (Or.inr ⟨rfl, fun d hd => ?_⟩)⟩)
    obtain ⟨d1, d2⟩ := hdd d hd
    have e1 : kd (sI (nO M1 0 3) 0 (mT M1) 0) d = kd M1 d := if_neg (by omega)
    have e2 : mT (sI (nO M1 0 3) 0 (mT M1) 0) = mT M1 + 1 := rfl
    rw [e1, e2]
    exact ⟨by omega, d2⟩
  · obtain ⟨-, -, hx, -, -, -, de, d1, d2, d3, d4⟩ := hB
    have g2 : gI (nL M1) 2 (mT M1) = 0 := by
      show up2 (gI (nO M1 0 3)) 0 (mT M1) 0 2 (mT M1) = 0
      rw [up2_ne (by omega)]
      exact if_pos rfl
    have g1 : gR (nL M1) 1 (mT M1) = some de := by
      show up2 (gR (nO M1 0 3)) 1 (mT M1) (sR M1 3) 1 (mT M1) = _
      rw [up2_at, d1]
    have k1 : kd (nL M1) de = 33 := by
      show (if de = mT M1 then 0 else kd M1 de) = 33
      rw [if_neg (by omega)]; exact d3
    have l1 : ln (nL M1) de = 0 := d4
    exact ⟨k0, g2, by simp, de, g1, by rw [l1]; simp, by rw [l1]; omega, fun i a hi => by simp at hi, Or.inr ⟨d1, rfl, l1, k1⟩⟩
theorem c_enumAt_no {x : Nat} {M : Mem} {E : List TE} {e : Int32} (hB : XB x M) (hE : XE x M E) (h : oob e E.length) : ex 107 2 [pR (some x), pI e] M = some (some (pR none), M) := by
  rw [tX11_enumerationAt]
  rcases h with h | h
  · exact it_t h rfl
  · by_cases h0 : e < 0
    · exact it_t h0 rfl
    · exact it_f h0 (rd_i rfl hB.k (rd_i hB.r1.1 hB.r1.2 (clI_i hE.size (it_t h rfl))))
theorem c_enumAt {x k : Nat} {M : Mem} {E : List TE} {q : TE} (hB : XB x M) (hE : XE x M E) (hq : E[k]? = some q) : ∃ a, ex 107 2 [pR (some x), pI (nI k)] M = some (some (pR (some a)), M) ∧ x + 57 < a ∧ cE x M q a ∧
    (∀ (M' : Mem) (q' : TE), (∀ as, isL M (x + 1) as → isL M' (x + 1) as) → cE x M' q' a → (∀ q b, b ≠ a → x + 57 < b → cE x M q b → cE x M' q b) → XE x M' (E.set k q')) := by
  obtain ⟨a, h1, h2, h3, h4, -⟩ := isO.at hE hq
  have hk : k < E.length := (List.getElem?_eq_some_iff.mp hq).1
  have hl := isO.len hE
  refine ⟨a, ?_, h2, h3, fun M' q' g1 g2 g3 => h4 M' _ q' g1 g2 g3⟩
  rw [tX11_enumerationAt]
  exact it_f (nI_pos (by omega)) (rd_i rfl hB.k (rd_i hB.r1.1 hB.r1.2 (clI_i hE.size (it_f (nI_ge hk (by omega)) (rd_i rfl hB.k (rd_i hB.r1.1 hB.r1.2 (clR_i h1 (ck_s rfl h3.1 rfl))))))))
/-- the place of a name, or -1 -/
def fndC : List TC → Int64 → Nat → Int32
  | [], _, _ => -1
  | q :: t, nm, i => if q.1 = nm then nI i else fndC t nm (i + 1)
theorem drop_get {α : Type} {l : List α} {i : Nat} (h : i < l.length) : ∃ q, l[i]? = some q ∧ l.drop i = q :: l.drop (i + 1) := ⟨l[i], List.getElem?_eq_getElem h, List.drop_eq_getElem_cons h⟩
theorem c_ordinalOf {x a : Nat} {M : Mem} {q : TE} (h : cE x M q a) (nm : Int64) : ex 47 4 [pR (some a), pJ nm] M = some (some (pI (fndC q.1 nm 0)), M) := by
  obtain ⟨h1, h2, -, -, -, h6⟩ := h
  have hl := h6.len
  have key : ∀ (n i : Nat), n + i = q.1.length → rn PP 47 2 [some (pR (some a)), some (pJ nm), none, some (pI (nI i))] [] M = some (some (pI (fndC (q.1.drop i) nm i)), M) := by
    intro n
    induction n with
    | zero =>
      intro i hi
      rw [tX3_ordinalOf_2]
      refine rd_i rfl h1 (rd_i h2 h6.k (clI_i h6.size (it_t (nI_le (by omega) (by omega)) ?_)))
      rw [List.drop_of_length_le (by omega)]
      rfl
    | succ n ih =>
      intro i hi
      obtain ⟨r, hr, hd⟩ := drop_get (l := q.1) (i := i) (by omega)
      obtain ⟨k, g1, -, ⟨g3, g4, g5⟩, -⟩ := h6.at hr
      rw [tX3_ordinalOf_2, hd]
      refine rd_i rfl h1 (rd_i h2 h6.k (clI_i h6.size (it_f (nI_ge (by omega) (by omega)) (rd_i rfl h1 (rd_i h2 h6.k (clR_i g1 (ck_s rfl g3 (rd_i rfl g3 ?_))))))))
      rw [g4]
      show _ = some (some (pI (if r.1 = nm then nI i else fndC (q.1.drop (i + 1)) nm (i + 1))), M)
      by_cases e : r.1 = nm
      · rw [if_pos e]
        exact it_f (not_not_intro (cmp_eq0.mpr e)) rfl
      · rw [if_neg e]
        refine it_t (fun z => e (cmp_eq0.mp z)) ?_
        rw [nI_1]
        exact ih (i + 1) (by omega)
  rw [tX3_ordinalOf]
  have := key q.1.length 0 (by omega)
  rw [List.drop_zero] at this
  exact this
theorem c_constAt_no {x a : Nat} {M : Mem} {q : TE} {v : Int64} (h : cE x M q a) (hv : v < 0 ∨ lN q.1.length ≤ v) : ex 46 3 [pR (some a), pJ v] M = some (some (pR none), M) := by
  obtain ⟨h1, h2, -, -, -, h6⟩ := h
  have hl := h6.len
  rw [tX3_constantAt]
  by_cases h0 : v < 0
  · exact it_t (cmp_lt0.mpr h0) rfl
  · refine it_f (fun z => h0 (cmp_lt0.mp z)) (rd_i rfl h1 (rd_i h2 h6.k (clI_i h6.size (it_t ?_ rfl))))
    rw [nI_l (by omega), cmp_ge0]
    exact hv.resolve_left h0
theorem c_constAt {x a c : Nat} {M : Mem} {q : TE} {r : TC} (h : cE x M q a) (hc : q.1[c]? = some r) : ∃ k, ex 46 3 [pR (some a), pJ (lN c)] M = some (some (pR (some k)), M) ∧ x + 57 < k ∧ cC M r k ∧ ex 16 2 [pR (some (a + 1)), pI (nI c)] M = some (some (pR (some k)), M) := by
  obtain ⟨h1, h2, -, -, -, h6⟩ := h
  have hl := h6.len
  have hcl : c < q.1.length := (List.getElem?_eq_some_iff.mp hc).1
  obtain ⟨k, g1, g2, g3, -⟩ := h6.at hc
  refine ⟨k, ?_, g2, g3, g1⟩
  rw [tX3_constantAt]
  refine it_f (fun z => ?_) (rd_i rfl h1 (rd_i h2 h6.k (clI_i h6.size (it_f (fun z => ?_) (rd_i rfl h1 (rd_i h2 h6.k ?_))))))
  · have := cmp_lt0.mp z
    rw [I64_lt, lN_toInt (by omega)] at this
    have : (0 : Int64).toInt = 0 := rfl
    omega
  · rw [nI_l (by omega), cmp_ge0, lN_le (by omega) (by omega)] at z
    omega
  · rw [lN_i]
    exact clR_i g1 (ck_s rfl g3.1 rfl)
-- the model
theorem nIm1 {n : Nat} (h : n < 2147483648) : (nI n - 1).toInt = (n : Int) - 1 := by
  cases n with
  | zero => rfl
  | succ n => rw [nI_pred, nI_toInt (by omega)]; omega
theorem inB_no {e : Int32} {n : Nat} (hn : n < 2147483648) (h : oob e n) : inB e.toInt64 0 (nI n - 1).toInt64 = 0 := by
  refine if_neg (fun q => ?_)
  obtain ⟨q1, q2⟩ := q
  rw [I64_le, Int32.toInt_toInt64] at q1 q2
  rw [Int32.toInt_toInt64, nIm1 hn] at q2
  have z : (0 : Int64).toInt = 0 := rfl
  have z' : (0 : Int32).toInt = 0 := rfl
  rcases h with h | h
  · rw [I32_lt] at h; omega
  · rw [I32_le, nI_toInt hn] at h; omega
theorem inB_yes {k n : Nat} (hn : n < 2147483648) (h : k < n) : inB (nI k).toInt64 0 (nI n - 1).toInt64 = 1 := by
  refine if_pos ⟨?_, ?_⟩
  · rw [I64_le, Int32.toInt_toInt64, nI_toInt (by omega)]
    have z : (0 : Int64).toInt = 0 := rfl
    omega
  · rw [I64_le, Int32.toInt_toInt64, Int32.toInt_toInt64, nIm1 hn, nI_toInt (by omega)]
    omega
theorem m_isEnum_no {m : Nat} {M : Mem} {E : List TE} {e : Int32} (hB : MB m M) (hE : ME m M E) (h : oob e E.length) : ex 159 2 [pR (some m), pI e] M = some (some (pI 0), M) := by
  rw [tX12_isEnum]
  refine rd_i rfl hB.k ?_
  rw [hE.1]
  refine clI_i (m_in _ _ _ M) ?_
  have hl := hE.2.1
  rw [inB_no (by omega) h]
  exact zo_i (Or.inl rfl) rfl
theorem m_isEnum {m k : Nat} {M : Mem} {E : List TE} (hB : MB m M) (hE : ME m M E) (h : k < E.length) : ex 159 2 [pR (some m), pI (nI k)] M = some (some (pI 1), M) := by
  rw [tX12_isEnum]
  refine rd_i rfl hB.k ?_
  rw [hE.1]
  refine clI_i (m_in _ _ _ M) ?_
  have hl := hE.2.1
  rw [inB_yes (by omega) h]
  exact zo_i (Or.inr rfl) rfl
/-- a place of one of the model's rows -/
theorem ix_m {α : Type} {M : Mem} {r : Option α} {g : Option Nat} {a c d n L : Nat} {i : Int32} {f : Nat → Nat → Option α} (hg : g = some a ∧ kd M a = c ∧ ln M a = L) (hi : i = nI n) (hl : n < L) (hL : L ≤ 2147483648) (k : f a n = r) : ix c d g i M f = r := ix_i hg.1 (Or.inl hg.2.1) hi (by rw [hg.2.2]; exact hl) (by omega) k
theorem m_ordinal {m e : Nat} {M : Mem} {E : List TE} {q : TE} (hB : MB m M) (hE : ME m M E) (hq : E[e]? = some q) (nm : Int64) : ex 165 5 [pR (some m), pI (nI e), pJ nm] M = some (some (pI (fndC q.1 nm 0)), M) := by
  obtain ⟨-, h2, h3, -⟩ := hE
  have he : e < E.length := (List.getElem?_eq_some_iff.mp hq).1
  obtain ⟨g1, g2, g3, -⟩ := h3 e q hq
  have key : ∀ (n i : Nat), n + i = q.1.length → rn PP 165 3 [some (pR (some m)), some (pI (nI e)), some (pJ nm), none, some (pI (nI i))] [] M = some (some (pI (fndC (q.1.drop i) nm i)), M) := by
    intro n
    induction n with
    | zero =>
      intro i hi
      rw [tX12_ordinal_3]
      refine rd_i rfl hB.k (ix_m hB.a1 rfl (by omega) (by omega) ?_)
      rw [g2]
      refine it_t (nI_le (by omega) (by omega)) ?_
      rw [List.drop_of_length_le (by omega)]
      rfl
    | succ n ih =>
      intro i hi
      obtain ⟨r, hr, hd⟩ := drop_get (l := q.1) (i := i) (by omega)
      obtain ⟨y1, y2, -⟩ := g3 i r hr
      rw [tX12_ordinal_3, hd]
      refine rd_i rfl hB.k (ix_m hB.a1 rfl (by omega) (by omega) ?_)
      rw [g2]
      refine it_f (nI_ge (by omega) (by omega)) (rd_i rfl hB.k (ix_m hB.a2 (show (8 : Int32) * nI e + nI i = nI (8 * e + i) by rw [show (8 : Int32) = nI 8 from rfl, nI_mul, nI_add]) (by omega) (by omega) ?_))
      rw [y1]
      show _ = some (some (pI (if r.1 = nm then nI i else fndC (q.1.drop (i + 1)) nm (i + 1))), M)
      by_cases c : r.1 = nm
      · rw [if_pos c]
        exact it_f (not_not_intro (cmp_eq0.mpr c)) rfl
      · rw [if_neg c]
        refine it_t (fun z => c (cmp_eq0.mp z)) ?_
        rw [nI_1]
        exact ih (i + 1) (by omega)
  rw [tX12_ordinal]
  have := key q.1.length 0 (by omega)
  rw [List.drop_zero] at this
  exact this
