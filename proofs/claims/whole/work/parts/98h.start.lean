/-! STARTS: enumerations and records; about, named, work -/
section OPS
variable {x : Nat} {E E' : List TE} {R R' : List TR} {F F' : List TF} {W W' : List TW} {O O' : List TO} {T T' : List TL} {S S' : TS} {jW jO jW' jO' n : Nat} {M M' M1 : Mem}
def ntS (S : TS) (c : Int32) : TS := (S.1, S.2.1, S.2.2.1 ++ [c], S.2.2.2)
def stE (E : List TE) (S : TS) (e : Nat) : Int32 × List TE × TS := match E[e]? with
  | none => (0, E, S)
  | some q => if q.2.2.1 = 0 then (if q.2.2.2 = 0 then (if q.2.1 = 0 then (0, E.set e (q.1, q.2.1, 1, q.2.2.2), ntS S (nI (10 + e))) else (9, E.set e (q.1, q.2.1, q.2.2.1, 1), S)) else (10, E, S)) else (0, E, S)
def stR (R : List TR) (S : TS) (r : Nat) : List TR × TS := match R[r]? with
  | none => (R, S)
  | some q => if q.2.2 = 0 then (R.set r (q.1, q.2.1, 1), ntS S (nI r)) else (R, S)
def shE (E E' : List TE) : Prop := E'.length = E.length ∧ ∀ (e : Nat) (q : TE), E[e]? = some q → ∃ q', E'[e]? = some q' ∧ q'.1 = q.1
def shR (R R' : List TR) : Prop := R'.length = R.length ∧ ∀ (r : Nat) (q : TR), R[r]? = some q → ∃ q', R'[r]? = some q' ∧ q'.1 = q.1 ∧ q'.2.1 = q.2.1
theorem shE.rf : shE E E := ⟨rfl, fun _ q h => ⟨q, h, rfl⟩⟩
theorem shR.rf : shR R R := ⟨rfl, fun _ q h => ⟨q, h, rfl, rfl⟩⟩
theorem shE.set {e : Nat} {q q' : TE} (hq : E[e]? = some q) (h : q'.1 = q.1) : shE E (E.set e q') := by
  refine ⟨List.length_set, fun i r hr => ?_⟩
  rw [List.getElem?_set]
  by_cases c : e = i
  · subst c
    rw [hq] at hr
    cases hr
    rw [if_pos rfl, if_pos (List.getElem?_eq_some_iff.mp hq).1]
    exact ⟨q', rfl, h⟩
  · rw [if_neg c]
    exact ⟨r, hr, rfl⟩
theorem shR.set {e : Nat} {q q' : TR} (hq : R[e]? = some q) (h : q'.1 = q.1) (h2 : q'.2.1 = q.2.1) : shR R (R.set e q') := by
  refine ⟨List.length_set, fun i r hr => ?_⟩
  rw [List.getElem?_set]
  by_cases c : e = i
  · subst c
    rw [hq] at hr
    cases hr
    rw [if_pos rfl, if_pos (List.getElem?_eq_some_iff.mp hq).1]
    exact ⟨q', rfl, h, h2⟩
  · rw [if_neg c]
    exact ⟨r, hr, rfl, rfl⟩
theorem shE.tr {E'' : List TE} (h : shE E E') (g : shE E' E'') : shE E E'' := ⟨g.1.trans h.1, fun e q hq => by
  obtain ⟨q1, a1, a2⟩ := h.2 e q hq
  obtain ⟨q2, b1, b2⟩ := g.2 e q1 a1
  exact ⟨q2, b1, b2.trans a2⟩⟩
theorem shR.tr {R'' : List TR} (h : shR R R') (g : shR R' R'') : shR R R'' := ⟨g.1.trans h.1, fun e q hq => by
  obtain ⟨q1, a1, a2, a3⟩ := h.2 e q hq
  obtain ⟨q2, b1, b2, b3⟩ := g.2 e q1 a1
  exact ⟨q2, b1, b2.trans a2, b3.trans a3⟩⟩
theorem shR.back {r : Nat} {q' : TR} (h : shR R R') (hq : R'[r]? = some q') : ∃ q, R[r]? = some q ∧ q'.1 = q.1 ∧ q'.2.1 = q.2.1 := by
  have hr : r < R'.length := (List.getElem?_eq_some_iff.mp hq).1
  rw [h.1] at hr
  obtain ⟨q'', a1, a2, a3⟩ := h.2 r R[r] (List.getElem?_eq_getElem hr)
  rw [hq] at a1
  cases a1
  exact ⟨_, List.getElem?_eq_getElem hr, a2, a3⟩
theorem shR.getD (h : shR R R') (i : Nat) : (R'.getD i ([], [], 0)).1 = (R.getD i ([], [], 0)).1 := by
  rw [List.getD_eq_getElem?_getD, List.getD_eq_getElem?_getD]
  cases hr : R[i]? with
  | none =>
    have : R'[i]? = none := by
      rw [List.getElem?_eq_none_iff] at hr ⊢
      rw [h.1]
      exact hr
    rw [this]
  | some q =>
    obtain ⟨q', a1, a2, -⟩ := h.2 i q hr
    rw [a1]
    exact a2
theorem keyO_cg (h : ∀ i, (R'.getD i ([], [], 0)).1 = (R.getD i ([], [], 0)).1) (tw : Nat → Nat) (q : TO) : keyO R' O tw q = keyO R O tw q := by
  unfold keyO
  rw [h q.1]
theorem twT_cg (h : ∀ i, (R'.getD i ([], [], 0)).1 = (R.getD i ([], [], 0)).1) : ∀ n, twT R' O n = twT R O n := by
  intro n
  induction n with
  | zero => rfl
  | succ n ih =>
    unfold twT
    rw [ih]
    simp only [keyO_cg h]
theorem valOK.sh {o : Nat} {s f : Int32} {v : Int64} (hE : shE E E') (h : valOK E F W O o s f v) : valOK E' F W O o s f v := by
  obtain ⟨a, b, c, d, e⟩ := h
  refine ⟨a, fun z => ?_, fun z => ?_, d, e⟩
  · rcases b z with b | ⟨i, q, k, b1, b2, b3, b4⟩
    · exact Or.inl b
    · obtain ⟨q', y1, y2⟩ := hE.2 i q b2
      exact Or.inr ⟨i, q', k, b1, y1, by rw [y2]; exact b3, b4⟩
  · obtain ⟨i, q, c1, c2, c3⟩ := c z
    obtain ⟨q', y1, y2⟩ := hE.2 i q c2
    exact ⟨i, q', c1, y1, by rw [y2]; exact c3⟩
/-- only flags, starts, draft and cause have changed -/
theorem aw_sh (aw : AW E R F W O T S jW jO) (hE : shE E E') (hR : shR R R') (h0 : S'.2.2.1.length = cntE E' + cntR R') (h1 : S'.1 = S.1) (h2 : S'.2.1 = S.2.1) (h3 : S'.2.2.2.2.2 = S.2.2.2.2.2) : AW E' R' F W O T S' jW jO := by
  obtain ⟨a1, a2, a3, a4, a5, b1, b2, b3, b4, b5, b6, b7, b8, b9, b10⟩ := aw
  refine ⟨fun r q' hq => ?_, by rw [hR.1]; exact a2, a3, fun o q hq => ?_, by rw [hR.1]; exact a5, h0, by rw [h1]; exact b2, by rw [h2]; exact b3, by rw [h3]; exact b4, by rw [h2]; exact b5, by rw [h1]; exact b6, b7, b8, by rw [h3]; exact b9, ?_⟩
  · obtain ⟨q, y1, y2, y3⟩ := hR.back hq
    rw [y2, y3, hE.1]
    exact a1 r q y1
  · obtain ⟨rc, y1, y2, y3, y4⟩ := a4 o q hq
    obtain ⟨rc', z1, z2, -⟩ := hR.2 q.1 rc y1
    exact ⟨rc', z1, by rw [z2]; exact y2, y3, fun p t v ht hv => (y4 p t v (by rw [← z2]; exact ht) hv).sh hE⟩
  · rw [h3, twT_cg hR.getD]
    exact b10
theorem cntE_up {k : Nat} {q q' : TE} (hq : E[k]? = some q) (h0 : q.2.2.1 = 0) (h1 : q'.2.2.1 = 1) : cntE (E.set k q') = cntE E + 1 := by
  unfold cntE
  have hk : k < E.length := (List.getElem?_eq_some_iff.mp hq).1
  have he : E[k] = q := (List.getElem?_eq_some_iff.mp hq).2
  rw [List.set_eq_take_append_cons_drop, if_pos hk]
  conv => rhs; rw [← List.take_append_drop k E, List.drop_eq_getElem_cons hk, he]
  rw [List.filter_append, List.filter_append, List.length_append, List.length_append, List.filter_cons_of_pos (by rw [h1]; decide), List.filter_cons_of_neg (by rw [h0]; decide), List.length_cons]
  omega
theorem cntR_up {k : Nat} {q q' : TR} (hq : R[k]? = some q) (h0 : q.2.2 = 0) (h1 : q'.2.2 = 1) : cntR (R.set k q') = cntR R + 1 := by
  unfold cntR
  have hk : k < R.length := (List.getElem?_eq_some_iff.mp hq).1
  have he : R[k] = q := (List.getElem?_eq_some_iff.mp hq).2
  rw [List.set_eq_take_append_cons_drop, if_pos hk]
  conv => rhs; rw [← List.take_append_drop k R, List.drop_eq_getElem_cons hk, he]
  rw [List.filter_append, List.filter_append, List.length_append, List.length_append, List.filter_cons_of_pos (by rw [h1]; decide), List.filter_cons_of_neg (by rw [h0]; decide), List.length_cons]
  omega
theorem nt_len (c : Int32) : (ntS S c).2.2.1.length = S.2.2.1.length + 1 := by
  show (S.2.2.1 ++ [c]).length = _
  rw [List.length_append]
  rfl
theorem aw_stE (aw : AW E R F W O T S jW jO) (e : Nat) : AW (stE E S e).2.1 R F W O T (stE E S e).2.2 jW jO ∧ shE E (stE E S e).2.1 := by
  unfold stE
  cases hq : E[e]? with
  | none => exact ⟨aw, shE.rf⟩
  | some q =>
    have hS := aw.2.2.2.2.2.1
    show AW (if _ then _ else _ : Int32 × List TE × TS).2.1 R F W O T (if _ then _ else _ : Int32 × List TE × TS).2.2 jW jO ∧ _
    by_cases h1 : q.2.2.1 = 0
    · by_cases h2 : q.2.2.2 = 0
      · by_cases h3 : q.2.1 = 0
        · simp only [if_pos h1, if_pos h2, if_pos h3]
          exact ⟨aw_sh aw (shE.set hq rfl) shR.rf (by rw [nt_len, cntE_up hq h1 rfl, hS]; omega) rfl rfl rfl, shE.set hq rfl⟩
        · simp only [if_pos h1, if_pos h2, if_neg h3]
          exact ⟨aw_sh aw (shE.set hq rfl) shR.rf (by rw [cntE_set (q' := (q.1, q.2.1, q.2.2.1, 1)) hq rfl, hS]) rfl rfl rfl, shE.set hq rfl⟩
      · simp only [if_pos h1, if_neg h2]
        exact ⟨aw, shE.rf⟩
    · simp only [if_neg h1]
      exact ⟨aw, shE.rf⟩
theorem aw_stR (aw : AW E R F W O T S jW jO) (r : Nat) : AW E (stR R S r).1 F W O T (stR R S r).2 jW jO ∧ shR R (stR R S r).1 := by
  unfold stR
  cases hq : R[r]? with
  | none => exact ⟨aw, shR.rf⟩
  | some q =>
    have hS := aw.2.2.2.2.2.1
    show AW E (if _ then _ else _ : List TR × TS).1 F W O T (if _ then _ else _ : List TR × TS).2 jW jO ∧ _
    by_cases h1 : q.2.2 = 0
    · simp only [if_pos h1]
      exact ⟨aw_sh aw shE.rf (shR.set hq rfl rfl) (by rw [nt_len, cntR_up hq h1 rfl, hS]; omega) rfl rfl rfl, shR.set hq rfl rfl⟩
    · simp only [if_neg h1]
      exact ⟨aw, shR.rf⟩
/-- only the class's own numbers and small rows have changed -/
theorem XI.frS {K AI AJ : Nat → Prop} (h : XI x E R F W O T S jW jO M) (f : Fr x K No AI AJ n M M1) (hK : ∀ k, K k → k = 709 ∨ k = 712 ∨ k = 713 ∨ k = 715 ∨ k = 721 ∨ k = 722) (hI : ∀ a, AI a → x ≤ a ∧ a ≤ x + 57) (hJ : ∀ a, AJ a → x ≤ a ∧ a ≤ x + 57) (hS' : XS x M1 S') : XI x E R F W O T S' jW jO M1 := by
  obtain ⟨⟨hB, hv, hLI⟩, h1, h2, h3, h4, h5, h6, h7⟩ := h
  have nK : ∀ (ks : List Nat), ks.all (fun k => decide (¬ (k = 709 ∨ k = 712 ∨ k = 713 ∨ k = 715 ∨ k = 721 ∨ k = 722))) = true → ∀ k ∈ ks, ¬ K k := fun ks hks k hk q => by
    have a1 := of_decide_eq_true (List.all_eq_true.mp hks k hk)
    exact a1 (hK k q)
  have nX : ∀ q ∈ xtab, ¬ K q.1 := fun q hq z => by
    have a1 : ∀ q ∈ xtab, ¬ (q.1 = 709 ∨ q.1 = 712 ∨ q.1 = 713 ∨ q.1 = 715 ∨ q.1 = 721 ∨ q.1 = 722) := by decide
    exact a1 q hq (hK _ z)
  exact ⟨⟨hB.fr f nX (fun a ha q => by have := hI a q; omega), f.v, f.li⟩, h1.fr f (nK _ (by decide)) id (fun _ _ _ => id), h2.fr f (nK _ (by decide)) id (fun _ _ _ _ => ⟨id, id⟩), h3.fr f (nK _ (by decide)) id (fun a ha _ => ⟨fun q => by have := hI _ q; omega, fun q => by have := hI _ q; omega⟩), h4.fr hB f (nK _ (by decide)) id (fun a ha _ q => by have := hJ _ q; omega), h5.fr hB f (nK _ (by decide)) id (fun a ha _ q => by have := hJ _ q; omega), h6.fr f (nK _ (by decide)) id ⟨fun k hk _ q => by have := hJ _ q; omega, fun d hd q => by have := hJ _ q; omega⟩, hS'⟩
theorem c_note {c : Int32} (hX : XI x E R F W O T S jW jO M) (hl : S.2.2.1.length < 10) : ∃ M', ex 118 2 [pR (some x), pI c] M = some (none, M') ∧ XI x E R F W O T (ntS S c) jW jO M' ∧ Fr x (fun k => k = 715) No (fun d => d = x + 6) No 0 M M' := by
  obtain ⟨⟨hB, hv, hL⟩, -, -, -, -, -, -, hS⟩ := id hX
  have f0 : Fr x (fun k => k = 715) No (fun d => d = x + 6) No 0 M (sI M 715 x (nI S.2.2.1.length + 1)) := (Fr.rf hv hL).bI (Or.inl ⟨by omega, rfl⟩)
  have f : Fr x (fun k => k = 715) No (fun d => d = x + 6) No 0 M (wI (sI M 715 x (nI S.2.2.1.length + 1)) (x + 6) S.2.2.1.length c) := f0.bAI (Or.inl rfl)
  have xs : XS x (wI (sI M 715 x (nI S.2.2.1.length + 1)) (x + 6) S.2.2.1.length c) (ntS S c) := by
    obtain ⟨s1, s2, s3, s4, s5, s6, s7, s8, s9⟩ := hS
    refine ⟨?_, ?_, ?_, fun i d hd => ?_, fun i hi => ?_, fun i hi => ?_, ?_, ?_, ?_⟩
    · rw [gI_wI, gI_sI, up2_ne (by omega)]; exact s1
    · rw [gI_wI, gI_sI, up2_ne (by omega)]; exact s2
    · rw [gI_wI, gI_sI, up2_at, nt_len, nI_1]
    · have hd : (S.2.2.1 ++ [c])[i]? = some d := hd
      rw [aI_wI, aI_sI, up1_at]
      by_cases q : i < S.2.2.1.length
      · rw [List.getElem?_append_left q] at hd
        rw [up1_no (by omega)]
        exact s4 i d hd
      · rw [List.getElem?_append_right (by omega)] at hd
        have : i - S.2.2.1.length < 1 := (List.getElem?_eq_some_iff.mp hd).1
        rw [show i - S.2.2.1.length = 0 by omega] at hd
        cases hd
        rw [show i = S.2.2.1.length by omega, up1_at]
    · rw [aJ_wI, aJ_sI]; exact s5 i hi
    · rw [aI_wI, aI_sI, up1_no (by omega)]; exact s6 i hi
    · rw [gI_wI, gI_sI, up2_ne (by omega)]; exact s7
    · rw [gI_wI, gI_sI, up2_ne (by omega)]; exact s8
    · rw [gI_wI, gI_sI, up2_ne (by omega)]; exact s9
  refine ⟨_, ?_, hX.frS f (fun k q => by omega) (fun a q => by omega) (fun _ q => q.elim) xs, f⟩
  rw [tX11_noteStart]
  have k6 := hB.r6
  refine rd_i rfl hB.k (rd_i rfl hB.k (al_i k6.1 (by rw [k6.2.1]; omega) (it_f ?_ (rd_i rfl hB.k (rd_i rfl hB.k (rd_i rfl hB.k (bd_i (ix_i (n := S.2.2.1.length) k6.1 (Or.inl k6.2.1) hS.2.2.1 ?_ (by omega) (bd_i ?_)))))))))
  · rw [k6.2.2, hS.2.2.1]
    exact nI_ge hl (by omega)
  · rw [ln_sI, k6.2.2]; exact hl
  · rw [hS.2.2.1]
theorem c_startE {e : Nat} {q : TE} (hX : XI x E R F W O T S jW jO M) (hq : E[e]? = some q) (hS : S.2.2.1.length = cntE E + cntR R) (hE4 : E.length ≤ 4) (hR6 : R.length ≤ 6) : ∃ M', ex 117 3 [pR (some x), pI (nI e)] M = some (some (pI (stE E S e).1), M') ∧ XI x (stE E S e).2.1 R F W O T (stE E S e).2.2 jW jO M' ∧ Fr x (fun k => k = 194 ∨ k = 195 ∨ k = 715) No (fun d => d = x + 6) No 0 M M' := by
  obtain ⟨⟨hB, hv, hL⟩, hE, -, -, -, -, -, -⟩ := id hX
  obtain ⟨a, c107, hxa, hc, hcl⟩ := c_enumAt hB hE hq
  obtain ⟨c1, c2, c3, c4, c5, c6⟩ := id hc
  have eq : stE E S e = if q.2.2.1 = 0 then (if q.2.2.2 = 0 then (if q.2.1 = 0 then (0, E.set e (q.1, q.2.1, 1, q.2.2.2), ntS S (nI (10 + e))) else (9, E.set e (q.1, q.2.1, q.2.2.1, 1), S)) else (10, E, S)) else (0, E, S) := by
    unfold stE
    rw [hq]
  rw [eq]
  by_cases h1 : q.2.2.1 = 0
  · rw [if_pos h1]
    by_cases h2 : q.2.2.2 = 0
    · rw [if_pos h2]
      by_cases h3 : q.2.1 = 0
      · rw [if_pos h3]
        obtain ⟨cn, hE1, f⟩ := c_flag (q' := (q.1, q.2.1, 1, q.2.2.2)) (v := 1) hB hv hL hc hxa (Or.inr (Or.inl rfl)) rfl (by rw [if_neg (by decide)]) (by rw [if_pos rfl]) (by rw [if_neg (by decide)]) hcl
        have hX1 := hX.frE f (fun k q => by omega) (fun l q => q.elim) hE1
        have up := cntE_up (q' := (q.1, q.2.1, 1, q.2.2.2)) hq h1 rfl
        have le1 := cntE_le (E.set e (q.1, q.2.1, 1, q.2.2.2))
        have le2 := cntR_le R
        rw [List.length_set] at le1
        obtain ⟨M2, e118, hX2, f2⟩ := c_note (c := nI (10 + e)) hX1 (by omega)
        refine ⟨M2, ?_, hX2, ((f.mo (n' := 0) (Nat.le_refl _) (fun k q => Or.inl q) (fun _ => id) (fun _ q => q.elim) (fun _ => id)).tr (f2.mo (n' := 0) (Nat.le_refl _) (fun k q => Or.inr (Or.inr q)) (fun _ => id) (fun _ => id) (fun _ => id)))⟩
        rw [tX11_startEnumeration]
        refine rd_i rfl hB.k (clR_i c107 (it_f (fun q => nomatch q) (rd_i rfl c1 (it_t (c4.trans h1) (rd_i rfl c1 (it_t (c5.trans h2) (rd_i rfl c1 (it_t (c3.trans h3) (rd_i rfl c1 (zo_i (Or.inr rfl) (bd_i (rd_i rfl hX1.1.1.k (clV_i ?_ rfl)))))))))))))
        rw [show (10 : Int32) + nI e = nI (10 + e) from nI_add 10 e]
        exact e118
      · rw [if_neg h3]
        obtain ⟨cn, hE1, f⟩ := c_flag (q' := (q.1, q.2.1, q.2.2.1, 1)) (v := 1) hB hv hL hc hxa (Or.inr (Or.inr rfl)) rfl (by rw [if_neg (by decide)]) (by rw [if_neg (by decide)]) (by rw [if_pos rfl]) hcl
        have hX1 := hX.frE f (fun k q => by omega) (fun l q => q.elim) hE1
        refine ⟨_, ?_, hX1, f.mo (n' := 0) (Nat.le_refl _) (fun k q => Or.inr (Or.inl q)) (fun _ => id) (fun _ q => q.elim) (fun _ => id)⟩
        rw [tX11_startEnumeration]
        exact rd_i rfl hB.k (clR_i c107 (it_f (fun q => nomatch q) (rd_i rfl c1 (it_t (c4.trans h1) (rd_i rfl c1 (it_t (c5.trans h2) (rd_i rfl c1 (it_f (fun z => h3 (c3.symm.trans z)) (rd_i rfl c1 (zo_i (Or.inr rfl) (bd_i rfl))))))))))) 
    · rw [if_neg h2]
      refine ⟨M, ?_, hX, Fr.rf hv hL⟩
      rw [tX11_startEnumeration]
      exact rd_i rfl hB.k (clR_i c107 (it_f (fun q => nomatch q) (rd_i rfl c1 (it_t (c4.trans h1) (rd_i rfl c1 (it_f (fun z => h2 (c5.symm.trans z)) rfl))))))
  · rw [if_neg h1]
    refine ⟨M, ?_, hX, Fr.rf hv hL⟩
    rw [tX11_startEnumeration]
    exact rd_i rfl hB.k (clR_i c107 (it_f (fun q => nomatch q) (rd_i rfl c1 (it_f (fun z => h1 (c4.symm.trans z)) rfl))))
end OPS
