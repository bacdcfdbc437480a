/-! CALLS: make -/
section OPS
variable {x : Nat} {E E' : List TE} {R R' : List TR} {F F' : List TF} {W W' : List TW} {O O' : List TO} {T T' : List TL} {S S' : TS} {jW jO jW' jO' n : Nat} {M M' M1 : Mem}
/-- the model's rows at hand alone -/
def UZ (m : Nat) (M M' : Mem) : Prop := (kd M' = kd M ∧ ln M' = ln M ∧ gR M' = gR M) ∧ (∀ k, k ≠ 788 → gI M' k m = gI M k m) ∧ (∀ i, i ∉ [17, 18, 30, 42, 43, 44] → aI M' (m + i) = aI M (m + i)) ∧ (∀ i, i ∉ [29, 45] → aJ M' (m + i) = aJ M (m + i))
theorem UZ.rf {m : Nat} : UZ m M M := ⟨⟨rfl, rfl, rfl⟩, fun _ _ => rfl, fun _ _ => rfl, fun _ _ => rfl⟩
theorem UZ.tr {m : Nat} {M2 : Mem} (h : UZ m M M1) (g : UZ m M1 M2) : UZ m M M2 := by
  obtain ⟨⟨a1, a2, a3⟩, b, c, d⟩ := h
  obtain ⟨⟨a1', a2', a3'⟩, b', c', d'⟩ := g
  exact ⟨⟨a1'.trans a1, a2'.trans a2, a3'.trans a3⟩, fun k hk => (b' k hk).trans (b k hk), fun i hi => (c' i hi).trans (c i hi), fun i hi => (d' i hi).trans (d i hi)⟩
theorem UZ.uI {m j : Nat} {g : Nat → Int32} (h : UZ m M M1) (hj : j ∈ [17, 18, 30, 42, 43, 44]) : UZ m M (uI M1 (m + j) g) := h.tr ⟨⟨rfl, rfl, rfl⟩, fun _ _ => rfl, fun i hi => by rw [aI_uI, up1_no (fun z => hi (by rw [show i = j by omega]; exact hj))], fun _ _ => rfl⟩
theorem UZ.uJ {m j : Nat} {g : Nat → Int64} (h : UZ m M M1) (hj : j ∈ [29, 45]) : UZ m M (uJ M1 (m + j) g) := h.tr ⟨⟨rfl, rfl, rfl⟩, fun _ _ => rfl, fun _ _ => rfl, fun i hi => by rw [aJ_uJ, up1_no (fun z => hi (by rw [show i = j by omega]; exact hj))]⟩
theorem UZ.wI {m j p : Nat} {v : Int32} (h : UZ m M M1) (hj : j ∈ [17, 18, 30, 42, 43, 44]) : UZ m M (wI M1 (m + j) p v) := h.uI hj
theorem UZ.wJ {m j p : Nat} {v : Int64} (h : UZ m M M1) (hj : j ∈ [29, 45]) : UZ m M (wJ M1 (m + j) p v) := h.uJ hj
theorem UZ.bJ {m k a : Nat} {v : Int64} (h : UZ m M M1) : UZ m M (sJ M1 k a v) := h.tr ⟨⟨rfl, rfl, rfl⟩, fun _ _ => rfl, fun _ _ => rfl, fun _ _ => rfl⟩
theorem MI.uz {m : Nat} {M' : Mem} (h : MI m E R F W O T S M) (u : UZ m M M') : MI m E R F W O T S M' := by
  obtain ⟨h1, h2, h3, h4, h5, h6, h7, h8⟩ := h
  obtain ⟨⟨u1, u2, u3⟩, g, a, b⟩ := u
  exact ⟨⟨by rw [u1]; exact h1.1, fun q hq => by rw [u1, u2, u3]; exact h1.2 q hq⟩, h2.cg (g _ (by omega)) (a _ (by decide)) (a _ (by decide)) (a _ (by decide)) (a _ (by decide)) (a _ (by decide)) (b _ (by decide)), h3.cg (g _ (by omega)) (a _ (by decide)) (a _ (by decide)) (a _ (by decide)) (a _ (by decide)) (a _ (by decide)) (a _ (by decide)) (a _ (by decide)) (b _ (by decide)) (b _ (by decide)) (b _ (by decide)) (b _ (by decide)), h4.cg (g _ (by omega)) (a _ (by decide)) (a _ (by decide)), h5.cg (g _ (by omega)) (a _ (by decide)) (a _ (by decide)) (b _ (by decide)), h6.cg (g _ (by omega)) (a _ (by decide)) (a _ (by decide)) (b _ (by decide)), h7.cg (g _ (by omega)) (a _ (by decide)) (a _ (by decide)) (a _ (by decide)) (a _ (by decide)) (a _ (by decide)) (a _ (by decide)) (a _ (by decide)) (a _ (by decide)) (b _ (by decide)) (b _ (by decide)) (b _ (by decide)), h8.cg (g _ (by omega)) (g _ (by omega)) (g _ (by omega)) (g _ (by omega)) (g _ (by omega)) (g _ (by omega)) (g _ (by omega)) (g _ (by omega)) (g _ (by omega)) (g _ (by omega)) (a _ (by decide)) (b _ (by decide))⟩
theorem MB.uz {m : Nat} {M' : Mem} (h : MB m M) (u : UZ m M M') : MB m M' := by
  obtain ⟨⟨u1, u2, u3⟩, -⟩ := u
  exact ⟨by rw [u1]; exact h.1, fun q hq => by rw [u1, u2, u3]; exact h.2 q hq⟩
-- one object more
theorem getD_app {α : Type} {l r : List α} {i : Nat} {d : α} (h : i < l.length) : (l ++ r).getD i d = l.getD i d := by
  rw [List.getD_eq_getElem?_getD, List.getD_eq_getElem?_getD, List.getElem?_append_left h]
theorem find_cg {α : Type} {p q : α → Bool} : ∀ {l : List α}, (∀ k ∈ l, p k = q k) → l.find? p = l.find? q := by
  intro l
  induction l with
  | nil => intro _; rfl
  | cons a l ih =>
    intro h
    rw [List.find?_cons, List.find?_cons, h a List.mem_cons_self, ih (fun k hk => h k (List.mem_cons_of_mem _ hk))]
theorem twT_app {q : TO} : ∀ n, n ≤ O.length → twT R (O ++ [q]) n = twT R O n := by
  intro n
  induction n with
  | zero => intro _; rfl
  | succ n ih =>
    intro hn
    unfold twT
    rw [ih (by omega)]
    have e : ∀ k ∈ List.range n, (keyO R (O ++ [q]) (fun i => (twT R O n).getD i 0) ((O ++ [q]).getD k (0, [], 0, 0)) == keyO R (O ++ [q]) (fun i => (twT R O n).getD i 0) ((O ++ [q]).getD n (0, [], 0, 0))) = (keyO R O (fun i => (twT R O n).getD i 0) (O.getD k (0, [], 0, 0)) == keyO R O (fun i => (twT R O n).getD i 0) (O.getD n (0, [], 0, 0))) := fun k hk => by
      rw [getD_app (i := k) (by have := List.mem_range.mp hk; omega), getD_app (i := n) (by omega)]
      rfl
    rw [find_cg e]
theorem valOK.app {o : Nat} {s f : Int32} {v : Int64} {q : TO} (h : valOK E F W O o s f v) : valOK E F W (O ++ [q]) o s f v := by
  obtain ⟨a, b, c, d, e⟩ := h
  refine ⟨a, b, c, d, fun z => ?_⟩
  rcases e z with e | ⟨o', q', g, fq, y1, y2, y3⟩
  · exact Or.inl e
  · exact Or.inr ⟨o', q', g, fq, y1, app_old y2, y3⟩
theorem aw_obj {r : Nat} {rc : TR} {vs : List Int64} {tw : Int32} (aw : AW E R F W O T S jW jO) (hq : R[r]? = some rc) (hvl : vs.length = rc.1.length) (hval : ∀ (p : Nat) (t : TP) (v : Int64), rc.1[p]? = some t → vs[p]? = some v → valOK E F W O O.length t.2.1 t.2.2.1 v) (hS1 : S'.1 = S.1) (hS2 : S'.2.1 ≤ 100) (hS3 : S'.2.2 = S.2.2) (hT : wfT R.length W.length (O.length + 1) T') (hTl : T'.length = T.length) (hcnt : O.length + 1 = S'.2.1 + cntL T') (hcw : cntW T' = cntW T) (hj : O.length + 1 + jO' ≤ 164) : AW E R F W (O ++ [(r, vs, -1, tw)]) T' S' jW jO' := by
  obtain ⟨a1, a2, a3, a4, a5, b1, b2, b3, b4, b5, b6, b7, b8, b9, b10⟩ := aw
  have hl : (O ++ [(r, vs, -1, tw)]).length = O.length + 1 := by rw [List.length_append]; rfl
  refine ⟨a1, a2, a3, fun o q ho => ?_, by rw [hl]; exact hT, by rw [hS3]; exact b1, by rw [hS1]; exact b2, hS2, by rw [hS3]; exact b4, by rw [hl]; exact hcnt, by rw [hS1, hcw]; exact b6, b7, by rw [hl]; exact hj, by rw [hl, hS3]; omega, fun i q hi hq' => ?_⟩
  · by_cases c : o < O.length
    · rw [List.getElem?_append_left c] at ho
      obtain ⟨rc', y1, y2, y3, y4⟩ := a4 o q ho
      exact ⟨rc', y1, y2, by rw [hTl]; exact y3, fun p t v ht hv => (y4 p t v ht hv).app⟩
    · rw [List.getElem?_append_right (by omega)] at ho
      have : o - O.length < 1 := (List.getElem?_eq_some_iff.mp ho).1
      rw [show o - O.length = 0 by omega] at ho
      cases ho
      rw [show o = O.length by omega]
      exact ⟨rc, hq, hvl, Or.inl rfl, fun p t v ht hv => (hval p t v ht hv).app⟩
  · rw [hS3] at hi
    rw [List.getElem?_append_left (by omega)] at hq'
    rw [b10 i q hi hq', twT_get _ (by omega), hl, twT_get _ (by omega)]
    unfold twf
    rw [twT_app _ (by omega)]
-- the codes
theorem stE_code (E : List TE) (S : TS) (e : Nat) : (stE E S e).1 = 0 ∨ (stE E S e).1 = 9 ∨ (stE E S e).1 = 10 := by
  unfold stE
  cases E[e]? with
  | none => exact Or.inl rfl
  | some q =>
    show (if _ then _ else _ : Int32 × List TE × TS).1 = 0 ∨ _
    by_cases h1 : q.2.2.1 = 0
    · by_cases h2 : q.2.2.2 = 0
      · by_cases h3 : q.2.1 = 0
        · simp [if_pos h1, if_pos h2, if_pos h3]
        · simp [if_pos h1, if_pos h2, if_neg h3]
      · simp [if_pos h1, if_neg h2]
    · simp [if_neg h1]
theorem stP_code (E : List TE) (S : TS) (t : TP) (v : Int64) : (stP E S t v).1 = 0 ∨ (stP E S t v).1 = 9 ∨ (stP E S t v).1 = 10 := by
  unfold stP
  split
  · exact stE_code _ _ _
  · exact Or.inl rfl
theorem stPs_code {c : Int32} {p' : Nat} : ∀ (ts : List TP) (vs : List Int64) (p : Nat) (E : List TE) (S : TS), (stPs ts vs p E S).1 = some (c, p') → c = 9 ∨ c = 10 := by
  intro ts
  induction ts with
  | nil => intro vs p E S h; rw [stPs_n] at h; exact nomatch h
  | cons t ts ih =>
    intro vs p E S h
    cases vs with
    | nil => exact nomatch h
    | cons v vs =>
      rw [stPs_c] at h
      by_cases h0 : (stP E S t v).1 = 0
      · rw [if_pos h0] at h
        exact ih vs _ _ _ h
      · rw [if_neg h0] at h
        have h : some ((stP E S t v).1, p) = some (c, p') := h
        injection h with h
        injection h with h h'
        rw [← h]
        exact (stP_code E S t v).resolve_left h0
theorem chV_code (E : List TE) (W : List TW) (O : List TO) (c : TK) (t : TP) (v : Int64) : chV E W O c t v ∈ [(0 : Int32), 1, 2, 3, 4, 5, 6, 7] := by
  unfold chV
  repeat' split
  all_goals decide
theorem chs_code {ps : List TP} {vs : List Int64} {c : Int32} {p' k' : Nat} : ∀ (cs : List TK) (k : Nat), chs E W O ps vs cs k = some (c, p', k') → c ∈ [(1 : Int32), 2, 3, 4, 5, 6, 7] := by
  intro cs
  induction cs with
  | nil => intro k h; exact nomatch h
  | cons d cs ih =>
    intro k h
    rw [chs] at h
    by_cases h0 : chV E W O d (ps.getD d.1 (0, 0, 0, 0)) (vs.getD d.1 0) = 0
    · rw [if_pos h0] at h
      exact ih _ h
    · rw [if_neg h0] at h
      injection h with h
      injection h with h h'
      rw [← h]
      exact (List.mem_cons.mp (chV_code E W O d _ _)).resolve_left h0
theorem con_neg {r : Nat} {q : TR} {vs : List Int64} {l c : Int32} (hq : R[r]? = some q) (h : (con E R W O S r vs l).1 = some c) : -10 - c < 0 := by
  obtain ⟨c1, c2⟩ := con_eq (E := E) (W := W) (O := O) (S := S) (vs := vs) (l := l) hq
  rcases con3 (E := E) (W := W) (O := O) (S := S) (vs := vs) (l := l) hq with ⟨d, p, h1⟩ | ⟨h1, d, p, k, h2⟩ | ⟨h1, h2⟩
  · rw [c1 d p h1] at h
    have h : some d = some c := h
    have h : d = c := Option.some.inj h
    subst h
    rcases stPs_code _ _ _ _ _ h1 with z | z <;> (rw [z]; decide)
  · rw [(c2 h1).1 d p k h2] at h
    have h : some d = some c := h
    have h : d = c := Option.some.inj h
    subst h
    have := chs_code _ _ h2
    have key : ∀ c ∈ [(1 : Int32), 2, 3, 4, 5, 6, 7], -10 - c < 0 := by decide
    exact key d this
  · rw [(c2 h1).2 h2] at h
    exact nomatch h
-- the draft
theorem c_draftFits {r a : Nat} {q : TR} (hX : XI x E R F W O T S jW jO M) (aw : AW E R F W O T S jW jO) (hq : R[r]? = some q) (hc : cR x M q a) (hE4 : E.length ≤ 4) (hE8 : ∀ (e : Nat) (q : TE), E[e]? = some q → q.1.length ≤ 8) (hF6 : ∀ (e : Nat) (q : TF), F[e]? = some q → q.2.length ≤ 6) (hq6 : q.1.length ≤ 6) : ∀ (n p : Nat), n + p = q.1.length → ((∀ (j : Nat) (t : TP), p ≤ j → q.1[j]? = some t → gV E F W O t.2.1 t.2.2.1 (S.2.2.2.1 j)) → rn PP 121 2 [some (pR (some x)), some (pR (some a)), some (pI (nI p))] [] M = some (some (pI 1), M)) ∧ ((∃ (j : Nat) (t : TP), p ≤ j ∧ q.1[j]? = some t ∧ ¬ gV E F W O t.2.1 t.2.2.1 (S.2.2.2.1 j)) → rn PP 121 2 [some (pR (some x)), some (pR (some a)), some (pI (nI p))] [] M = some (some (pI 0), M)) := by
  obtain ⟨⟨hB, -, -⟩, -, -, -, -, -, -, hS⟩ := id hX
  intro n
  induction n with
  | zero =>
    intro p hp
    refine ⟨fun _ => ?_, fun ⟨j, t, h1, h2, h3⟩ => ?_⟩
    · rw [tX11_draftFits_2]
      exact rd_i rfl hc.1 (rd_i hc.2.1 hc.2.2.2.2.1.k (clI_i hc.2.2.2.2.1.size (it_t (nI_le (by omega) (by omega)) (zo_i (Or.inr rfl) rfl))))
    · have := (List.getElem?_eq_some_iff.mp h2).1
      omega
  | succ n ih =>
    intro p hp
    obtain ⟨t, ht, -⟩ := drop_get (l := q.1) (i := p) (by omega)
    obtain ⟨k, hk1, hk2, hk3, -⟩ := isO.at hc.2.2.2.2.1 ht
    obtain ⟨f1, f2⟩ := c_fits (v := S.2.2.2.1 p) hX hE4 hE8 hF6 hk3 ((aw.1 r q hq).1 p t ht).1
    have r7 := hB.r7
    have run : ∀ {rr : Option Rt}, (clI (ex 122 5 [pR (some x), pR (some k), pJ (S.2.2.2.1 p)] M) fun r14 M12 => if ¬ r14 = 0 then rn PP 121 2 [some (pR (some x)), some (pR (some a)), some (pI (nI p + 1))] [] M12 else zo 0 (some (some (pI 0), M12))) = rr → rn PP 121 2 [some (pR (some x)), some (pR (some a)), some (pI (nI p))] [] M = rr := fun {rr} hr => by
      rw [tX11_draftFits_2]
      refine rd_i rfl hc.1 (rd_i hc.2.1 hc.2.2.2.2.1.k (clI_i hc.2.2.2.2.1.size (it_f (nI_ge (by omega) (by omega)) (rd_i rfl hc.1 (rd_i hc.2.1 hc.2.2.2.2.1.k (clR_i hk1 (ck_s rfl hk3.1 (rd_i rfl hB.k (ix_i (n := p) r7.1 (Or.inl r7.2.1) rfl (by rw [r7.2.2]; omega) (by omega) (rd_i rfl hB.k ?_))))))))))
      rw [hS.2.2.2.2.1 p (by omega)]
      exact hr
    obtain ⟨y1, y2⟩ := ih (p + 1) (by omega)
    by_cases g : gV E F W O t.2.1 t.2.2.1 (S.2.2.2.1 p)
    · refine ⟨fun z => run (clI_i (f1 g) (it_t (by decide) ?_)), fun ⟨j, t', h1, h2, h3⟩ => run (clI_i (f1 g) (it_t (by decide) ?_))⟩
      · rw [nI_1]
        exact y1 (fun j t' hj ht' => z j t' (by omega) ht')
      · rw [nI_1]
        refine y2 ⟨j, t', ?_, h2, h3⟩
        by_cases c : j = p
        · subst c
          rw [ht] at h2
          cases h2
          exact absurd g h3
        · omega
    · exact ⟨fun z => absurd (z p t (Nat.le_refl _) ht) g, fun _ => run (clI_i (f2 g) (it_f (not_not_intro rfl) (zo_i (Or.inl rfl) rfl)))⟩
/-- the draft, shaped -/
def shD (q : TR) (D : Nat → Int64) : List Int64 := q.1.mapIdx (fun p t => shp t.2.1 (D p))
theorem shD_at {q : TR} {D : Nat → Int64} {p : Nat} {v : Int64} (h : (shD q D)[p]? = some v) : ∃ t, q.1[p]? = some t ∧ v = shp t.2.1 (D p) := by
  unfold shD at h
  rw [List.getElem?_mapIdx] at h
  cases ht : q.1[p]? with
  | none => rw [ht] at h; exact nomatch h
  | some t =>
    rw [ht] at h
    injection h with h
    exact ⟨t, rfl, h.symm⟩
theorem shD_len {q : TR} {D : Nat → Int64} : (shD q D).length = q.1.length := by
  unfold shD
  exact List.length_mapIdx
theorem c_mk34 {r a : Nat} {q : TR} (hq6 : q.1.length ≤ 6) : ∀ (n p : Nat) (M : Mem), n + p = q.1.length → XI x E R F W O T S jW jO M → cR x M q a → ∃ g, rn PP 91 34 [some (pR (some x)), some (pI (nI r)), some (pR (some a)), some (pI (nI p))] [] M = (clI (ex 126 9 [pR (some x), pI (nI r), pR (some (x + 8)), pI (-1)] (uJ M (x + 8) g)) fun r8 M6 => if r8 < 0 then some (some (pI r8), M6) else rd (some x) 11 M6 fun a9 => rd (some x) 11 M6 fun a10 => bd (sI M6 712 a10 (gI M6 712 a9 + 1)) fun M11 => some (some (pI r8), M11)) ∧ (∀ (j : Nat) (t : TP), p ≤ j → q.1[j]? = some t → g j = shp t.2.1 (S.2.2.2.1 j)) ∧ (∀ j, j < p → g j = aJ M (x + 8) j) := by
  intro n
  induction n with
  | zero =>
    intro p M hp hX hc
    have hB := hX.1.1
    refine ⟨aJ M (x + 8), ?_, fun j t h1 h2 => ?_, fun j _ => rfl⟩
    · rw [tX11_make_34, uJ_self]
      refine rd_i rfl hc.1 (rd_i hc.2.1 hc.2.2.2.2.1.k (clI_i hc.2.2.2.2.1.size (it_t (nI_le (by omega) (by omega)) (rd_i rfl hB.k (rd_i rfl hB.k ?_)))))
      rw [hB.r8.1]
    · have := (List.getElem?_eq_some_iff.mp h2).1
      omega
  | succ n ih =>
    intro p M hp hX hc
    obtain ⟨⟨hB, hv, hL⟩, -, -, -, -, -, -, hS⟩ := id hX
    have r7 := hB.r7
    have r8 := hB.r8
    have hT := hB.lt
    obtain ⟨t, ht, -⟩ := drop_get (l := q.1) (i := p) (by omega)
    obtain ⟨k, hk1, hk2, hk3, -⟩ := isO.at hc.2.2.2.2.1 ht
    have f : Fr x No No No (fun d => d = x + 8) 0 M (wJ M (x + 8) p (shp t.2.1 (S.2.2.2.1 p))) := (Fr.rf hv hL).bAJ (Or.inl rfl)
    have hX1 : XI x E R F W O T S jW jO (wJ M (x + 8) p (shp t.2.1 (S.2.2.2.1 p))) := hX.frS f (fun _ q => q.elim) (fun _ q => q.elim) (fun d q => by omega) (hS.fr hB f (fun _ _ => id) ⟨id, id⟩ (by omega))
    have ew : aJ (wJ M (x + 8) p (shp t.2.1 (S.2.2.2.1 p))) (x + 8) = up1 (aJ M (x + 8)) p (shp t.2.1 (S.2.2.2.1 p)) := by rw [aJ_wJ, up1_at]
    obtain ⟨g, e1, e2, e3⟩ := ih (p + 1) _ (by omega) hX1 (hc.fr f (fun _ _ => id) ⟨id, id⟩)
    refine ⟨g, ?_, fun j t' h1 h2 => ?_, fun j hj => ?_⟩
    · rw [tX11_make_34]
      refine rd_i rfl hc.1 (rd_i hc.2.1 hc.2.2.2.2.1.k (clI_i hc.2.2.2.2.1.size (it_f (nI_ge (by omega) (by omega)) (rd_i rfl hB.k (rd_i rfl hc.1 (rd_i hc.2.1 hc.2.2.2.2.1.k (clR_i hk1 (ck_s rfl hk3.1 (rd_i rfl hk3.1 (rd_i rfl hB.k (ix_i (n := p) r7.1 (Or.inl r7.2.1) rfl (by rw [r7.2.2]; omega) (by omega) (clJ_i (c_shaped _ _ _) (ix_i (n := p) r8.1 (Or.inl r8.2.1) rfl (by rw [r8.2.2]; omega) (by omega) (bd_i ?_))))))))))))))
      rw [hk3.2.2.1, hS.2.2.2.2.1 p (by omega), nI_1, e1]
      show (clI (ex 126 9 [pR (some x), pI (nI r), pR (some (x + 8)), pI (-1)] (uJ (uJ M (x + 8) (up1 (aJ M (x + 8)) p (shp t.2.1 (S.2.2.2.1 p)))) (x + 8) g)) _) = _
      rw [uJ_uJ]
    · by_cases c : j = p
      · subst c
        rw [ht] at h2
        cases h2
        rw [e3 j (by omega), ew, up1_at]
      · exact e2 j t' (by omega) h2
    · rw [e3 j (by omega), ew, up1_no (by omega)]
-- the model
theorem m_mk12 {m r : Nat} {q : TR} (aw : AW E R F W O T S jW jO) (hq : R[r]? = some q) : ∀ (n p : Nat) (M : Mem), n + p = q.1.length → MI m E R F W O T S M → ∃ M', CU m M M' ∧ MI m E R F W O T S M' ∧ ((∀ (j : Nat) (t : TP), p ≤ j → q.1[j]? = some t → gV E F W O t.2.1 t.2.2.1 (S.2.2.2.1 j)) → rn PP 202 12 [some (pR (some m)), some (pI (nI r)), some (pI (nI p)), none] [] M = (rd (some m) 12 M' fun a4 => if ¬ gI M' 792 a4 = 100 then rn PP 202 65 [some (pR (some m)), some (pI (nI r)), some (pI 0), none] [] M' else some (some (pI (-3)), M'))) ∧ ((∃ (j : Nat) (t : TP), p ≤ j ∧ q.1[j]? = some t ∧ ¬ gV E F W O t.2.1 t.2.2.1 (S.2.2.2.1 j)) → rn PP 202 12 [some (pR (some m)), some (pI (nI r)), some (pI (nI p)), none] [] M = some (some (pI (-1)), M')) := by
  intro n
  induction n with
  | zero =>
    intro p M hp hM
    obtain ⟨mB, mE, mR, -, -, -, -, mS⟩ := id hM
    have hr : r < R.length := (List.getElem?_eq_some_iff.mp hq).1
    have hr6 := mR.2.1
    obtain ⟨⟨z1, z2, z3⟩, -⟩ := mR.2.2.1 r q hq
    refine ⟨M, CU.rf, hM, fun _ => ?_, fun ⟨j, t, h1, h2, h3⟩ => ?_⟩
    · rw [tX12_make_12]
      exact rd_i rfl mB.k (ix_m (n := r) mB.a5 rfl (by omega) (by omega) (it_t (by rw [z2]; exact nI_le (by omega) (by omega)) rfl))
    · have := (List.getElem?_eq_some_iff.mp h2).1
      omega
  | succ n ih =>
    intro p M hp hM
    obtain ⟨mB, mE, mR, -, -, -, -, mS⟩ := id hM
    have hr : r < R.length := (List.getElem?_eq_some_iff.mp hq).1
    have hr6 := mR.2.1
    obtain ⟨⟨z1, z2, z3⟩, -⟩ := mR.2.2.1 r q hq
    obtain ⟨t, ht, -⟩ := drop_get (l := q.1) (i := p) (by omega)
    obtain ⟨M1, cu1, hM1, g1, g2⟩ := m_good (v := S.2.2.2.1 p) hM aw.2.1 hq ht ((aw.1 r q hq).1 p t ht).1
    have run : ∀ {rr : Option Rt}, (clI (ex 197 4 [pR (some m), pI (nI (6 * r + p)), pJ (S.2.2.2.1 p)] M) fun r10 M8 => if ¬ r10 = 0 then rn PP 202 12 [some (pR (some m)), some (pI (nI r)), some (pI (nI p + 1)), none] [] M8 else some (some (pI (-1)), M8)) = rr → rn PP 202 12 [some (pR (some m)), some (pI (nI r)), some (pI (nI p)), none] [] M = rr := fun {rr} hr' => by
      rw [tX12_make_12]
      refine rd_i rfl mB.k (ix_m (n := r) mB.a5 rfl (by omega) (by omega) (it_f (by rw [z2]; exact nI_ge (by omega) (by omega)) (rd_i rfl mB.k (ix_m (n := p) mB.a28 rfl (by omega) (by omega) (rd_i rfl mB.k ?_)))))
      rw [m6, mS.2.2.2.2.1 p (by omega)]
      exact hr'
    by_cases g : gV E F W O t.2.1 t.2.2.1 (S.2.2.2.1 p)
    · obtain ⟨M2, cu2, hM2, y1, y2⟩ := ih (p + 1) M1 (by omega) hM1
      refine ⟨M2, cu1.tr cu2, hM2, fun z => run (clI_i (g1 g) (it_t (by decide) ?_)), fun ⟨j, t', h1, h2, h3⟩ => run (clI_i (g1 g) (it_t (by decide) ?_))⟩
      · rw [nI_1]
        exact y1 (fun j t' hj ht' => z j t' (by omega) ht')
      · rw [nI_1]
        refine y2 ⟨j, t', ?_, h2, h3⟩
        by_cases c : j = p
        · subst c
          rw [ht] at h2
          cases h2
          exact absurd g h3
        · omega
    · exact ⟨M1, cu1, hM1, fun z => absurd (z p t (Nat.le_refl _) ht) g, fun _ => run (clI_i (g2 g) (it_f (not_not_intro rfl) rfl))⟩
theorem m_mk65 {m r : Nat} {q : TR} (hq : R[r]? = some q) : ∀ (n p : Nat) (M : Mem), n + p = q.1.length → MI m E R F W O T S M → ∃ g, rn PP 202 65 [some (pR (some m)), some (pI (nI r)), some (pI (nI p)), none] [] M = (clI (ex 199 8 [pR (some m), pI (nI r), pI (-1)] (uJ M (m + 29) g)) fun r6 M4 => rd (some m) 12 M4 fun a7 => if r6 < 0 then rd (some m) 12 M4 fun a8 => bd (sI M4 792 a8 (gI M4 792 a7 + 0)) fun M9 => some (some (pI r6), M9) else rd (some m) 12 M4 fun a10 => bd (sI M4 792 a10 (gI M4 792 a7 + 1)) fun M11 => some (some (pI r6), M11)) ∧ (∀ (j : Nat) (t : TP), p ≤ j → q.1[j]? = some t → g j = shp t.2.1 (S.2.2.2.1 j)) ∧ (∀ j, j < p → g j = aJ M (m + 29) j) := by
  intro n
  induction n with
  | zero =>
    intro p M hp hM
    obtain ⟨mB, mE, mR, -, -, -, -, mS⟩ := id hM
    have hr : r < R.length := (List.getElem?_eq_some_iff.mp hq).1
    have hr6 := mR.2.1
    obtain ⟨⟨z1, z2, z3⟩, -⟩ := mR.2.2.1 r q hq
    refine ⟨aJ M (m + 29), ?_, fun j t h1 h2 => ?_, fun j _ => rfl⟩
    · rw [tX12_make_65, uJ_self]
      exact rd_i rfl mB.k (ix_m (n := r) mB.a5 rfl (by omega) (by omega) (it_t (by rw [z2]; exact nI_le (by omega) (by omega)) (rd_i rfl mB.k rfl)))
    · have := (List.getElem?_eq_some_iff.mp h2).1
      omega
  | succ n ih =>
    intro p M hp hM
    obtain ⟨mB, mE, mR, -, -, -, -, mS⟩ := id hM
    have hr : r < R.length := (List.getElem?_eq_some_iff.mp hq).1
    have hr6 := mR.2.1
    obtain ⟨⟨z1, z2, z3⟩, -⟩ := mR.2.2.1 r q hq
    obtain ⟨t, ht, -⟩ := drop_get (l := q.1) (i := p) (by omega)
    have hM1 : MI m E R F W O T S (wJ M (m + 29) p (shp t.2.1 (S.2.2.2.1 p))) := hM.uz (UZ.rf.wJ (by decide))
    have ew : aJ (wJ M (m + 29) p (shp t.2.1 (S.2.2.2.1 p))) (m + 29) = up1 (aJ M (m + 29)) p (shp t.2.1 (S.2.2.2.1 p)) := by rw [aJ_wJ, up1_at]
    obtain ⟨g, e1, e2, e3⟩ := ih (p + 1) _ (by omega) hM1
    refine ⟨g, ?_, fun j t' h1 h2 => ?_, fun j hj => ?_⟩
    · rw [tX12_make_65]
      refine rd_i rfl mB.k (ix_m (n := r) mB.a5 rfl (by omega) (by omega) (it_f (by rw [z2]; exact nI_ge (by omega) (by omega)) (rd_i rfl mB.k (rd_i rfl mB.k (ix_m (n := 6 * r + p) mB.a7 (m6 r p) (by omega) (by omega) (rd_i rfl mB.k (ix_m (n := p) mB.a28 rfl (by omega) (by omega) (clJ_i (m_shaped _ _ _) (ix_m (n := p) mB.a29 rfl (by omega) (by omega) (bd_i ?_))))))))))
      rw [(z3 p t ht).2.1, mS.2.2.2.2.1 p (by omega), nI_1, e1]
      show (clI (ex 199 8 [pR (some m), pI (nI r), pI (-1)] (uJ (uJ M (m + 29) (up1 (aJ M (m + 29)) p (shp t.2.1 (S.2.2.2.1 p)))) (m + 29) g)) _) = _
      rw [uJ_uJ]
    · by_cases c : j = p
      · subst c
        rw [ht] at h2
        cases h2
        rw [e3 j (by omega), ew, up1_at]
      · exact e2 j t' (by omega) h2
    · rw [e3 j (by omega), ew, up1_no (by omega)]
end OPS
