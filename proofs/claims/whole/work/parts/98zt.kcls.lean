/-! KEEPING: the class counts, and keeps in order -/
section OPS
variable {x : Nat} {E E' : List TE} {R R' : List TR} {F F' : List TF} {W W' : List TW} {O O' : List TO} {T T' : List TL} {S S' : TS} {jW jO jW' jO' n : Nat} {M M' M1 : Mem}
def XOa (x : Nat) (M : Mem) (as : List Nat) (O : List TO) : Prop := isL M (x + 5) as ∧ (∀ i j a : Nat, as[i]? = some a → as[j]? = some a → i = j) ∧ O.length ≤ as.length ∧ ∀ (i a : Nat) (q : TO), as[i]? = some a → O[i]? = some q → x + 57 < a ∧ cO M (some q) a
theorem XO.a (h : XO x M O jO) : ∃ as, XOa x M as O := by
  obtain ⟨⟨as, h1, h2, h3, h4⟩, -⟩ := h
  refine ⟨as, h1, h2, by rw [h3, List.length_append, List.length_map]; omega, fun i a q ha hq => ?_⟩
  have hi : i < O.length := (List.getElem?_eq_some_iff.mp hq).1
  exact h4 i a (some q) ha (by rw [List.getElem?_append_left (by rw [List.length_map]; exact hi), List.getElem?_map, hq]; rfl)
theorem XOa.at {as : List Nat} {o : Nat} {q : TO} (h : XOa x M as O) (hq : O[o]? = some q) : ∃ a, as[o]? = some a ∧ ex 16 2 [pR (some (x + 5)), pI (nI o)] M = some (some (pR (some a)), M) ∧ x + 57 < a ∧ cO M (some q) a := by
  have hi : o < O.length := (List.getElem?_eq_some_iff.mp hq).1
  have hal : o < as.length := by have := h.2.2.1; omega
  have ha : as[o]? = some as[o] := List.getElem?_eq_getElem hal
  exact ⟨_, ha, L_get h.1 ha, h.2.2.2 o _ q ha hq⟩
theorem XI.f452 (h : XI x E R F W O T S jW jO M) (g : GI (fun j _ => j = 452) M M') : XI x E R F W O T S jW jO M' ∧ Fr x (fun k => k = 452) No No No 0 M M' := by
  have f : Fr x (fun k => k = 452) No No No 0 M M' := g.fr h.1.2.1 h.1.2.2 (fun k a q => ⟨by omega, q⟩)
  exact ⟨h.frO f (fun k q => by omega) (fun _ q => q.elim) (fun _ q => q.elim) (h.2.2.2.2.2.1.fr h.1.1 f (by decide) id (fun _ _ _ => id)), f⟩
theorem XOa.fr {as : List Nat} (h : XOa x M as O) (f : Fr x (fun k => k = 452) No No No 0 M M') : XOa x M' as O := ⟨f.ls id as h.1, h.2.1, h.2.2.1, fun i a q ha hq => ⟨(h.2.2.2 i a q ha hq).1, (h.2.2.2 i a q ha hq).2.fr f (by decide) id⟩⟩
/-- the marks of the first ones -/
def WK (M : Mem) (as : List Nat) (w : Nat → Bool) (k : Nat) : Prop := ∀ i a : Nat, i < k → as[i]? = some a → gI M 452 a = b32 (w i)
theorem WK.mark {as : List Nat} {w : Nat → Bool} {k c a : Nat} (hX : XOa x M as O) (h : WK M as w k) (ha : as[c]? = some a) : WK (sI M 452 a 1) as (fun i => if i = c then true else w i) k := fun i b hi hb => by
  show gI (sI M 452 a 1) 452 b = b32 (if i = c then true else w i)
  rw [gI_sI]
  by_cases q : i = c
  · subst q
    rw [ha] at hb
    cases hb
    rw [up2_at, if_pos rfl]
    rfl
  · rw [up2_no (fun z => q (hX.2.1 i c a (by rw [← z]; exact hb) ha)), if_neg q]
    exact h i b hi hb
theorem c_want16 {as : List Nat} {o a ra K : Nat} {q : TO} {rc : TR} (aw : AW E R F W O T S jW jO) (hl : O.length ≤ 164) (hq : O[o]? = some q) (ha : as[o]? = some a) (hrc : R[q.1]? = some rc) : ∀ (n p : Nat) (w : Nat → Bool) (M : Mem), n + p = rc.1.length → XI x E R F W O T S jW jO M → XOa x M as O → cR x M rc ra → WK M as w K → ∃ M', rn PP 138 16 [some (pR (some x)), some (pR (some a)), some (pR (some ra)), some (pI (nI p)), none] [] M = some (none, M') ∧ GI (fun j _ => j = 452) M M' ∧ WK M' as (mrk w (chl (rc.1.drop p) (q.2.1.drop p))) K := by
  obtain ⟨rc', y1, hvl, -, hval⟩ := aw.2.2.2.1 o q hq
  rw [hrc] at y1
  cases y1
  have ho : o < O.length := (List.getElem?_eq_some_iff.mp hq).1
  intro n
  induction n with
  | zero =>
    intro p w M hp hX hXo hr hw
    have h1002 := hr.2.2.2.2.1.len
    rw [List.drop_of_length_le (show rc.1.length ≤ p by omega), chl_n]
    refine ⟨M, ?_, GI.rf, hw⟩
    rw [tX11_wantParts_16]
    exact rd_i rfl hr.1 (rd_i hr.2.1 hr.2.2.2.2.1.k (clI_i hr.2.2.2.2.1.size (it_t (nI_le (by omega) (by omega)) rfl)))
  | succ n ih =>
    intro p w M hp hX hXo hr hw
    have h1002 := hr.2.2.2.2.1.len
    obtain ⟨t, ht, hdt⟩ := drop_get (l := rc.1) (i := p) (by omega)
    obtain ⟨v, hv, hdv⟩ := drop_get (l := q.2.1) (i := p) (by omega)
    obtain ⟨kt, k1, k2, k3, -⟩ := isO.at hr.2.2.2.2.1 ht
    obtain ⟨-, c1, c2, c3, c4, c5⟩ := hXo.2.2.2 o a q ha hq
    obtain ⟨d1, d2, d3, d4, d5⟩ := c5 q rfl
    rw [hdt, hdv, chl_c]
    by_cases h11 : t.2.1 = 11
    · have pre : ∀ {rr : Option Rt}, (clR (ex 111 3 [pR (some x), pJ v] M) fun r17 M15 => if r17 = none then rn PP 138 16 [some (pR (some x)), some (pR (some a)), some (pR (some ra)), some (pI (nI (p + 1))), none] [] M15 else rd r17 7 M15 fun a18 => zo 1 (bd (sI M15 452 a18 1) fun M19 => rn PP 138 16 [some (pR (some x)), some (pR (some a)), some (pR (some ra)), some (pI (nI (p + 1))), none] [] M19)) = rr → rn PP 138 16 [some (pR (some x)), some (pR (some a)), some (pR (some ra)), some (pI (nI p)), none] [] M = rr := fun {rr} hr' => by
        rw [tX11_wantParts_16]
        refine rd_i rfl hr.1 (rd_i hr.2.1 hr.2.2.2.2.1.k (clI_i hr.2.2.2.2.1.size (it_f (nI_ge (by omega) (by omega)) (rd_i rfl hr.1 (rd_i hr.2.1 hr.2.2.2.2.1.k (clR_i k1 (ck_s rfl k3.1 (rd_i rfl k3.1 (it_f (not_not_intro (k3.2.2.1.trans h11)) (rd_i rfl c1 (ix_i (n := p) c2 (Or.inl c3) rfl (by rw [c4]; omega) (by omega) (rd_i rfl hX.1.1.k ?_))))))))))))
        rw [d5 p v hv, nI_1]
        exact hr'
      rcases (hval p t v ht hv).2.2.2.2 h11 with hm | ⟨o', q', g, fq, u1, u2, u3, -⟩
      · rw [if_neg (fun z => z.2 hm)]
        obtain ⟨M', e1, e2, e3⟩ := ih (p + 1) w M (by omega) hX hXo hr hw
        exact ⟨M', pre (clR_i (c_objAt_no hX.1.1 hX.2.2.2.2.2.1 (by rw [hm]; exact Or.inl (by decide))) (it_t rfl e1)), e2, e3⟩
      · have ne : v ≠ -1 := by rw [u3]; exact lN_ne (by omega)
        rw [if_pos ⟨h11, ne⟩, mrk, u3, lN_back (by omega)]
        obtain ⟨b, hb, gb, xb, cb⟩ := hXo.at u2
        have gi : GI (fun j _ => j = 452) M (sI M 452 b 1) := GI.rf.sI rfl
        obtain ⟨hX1, f1⟩ := hX.f452 gi
        obtain ⟨M', e1, e2, e3⟩ := ih (p + 1) _ (sI M 452 b 1) (by omega) hX1 (hXo.fr f1) (hr.fr f1 (by decide) ⟨id, id⟩) (hw.mark hXo hb)
        exact ⟨M', pre (clR_i (v := some b) (M1 := M) (by rw [u3]; exact c_objAt_ad hX.1.1 hX.2.2.2.2.2.1 u2 gb) (it_f (fun z => nomatch z) (rd_i rfl cb.1 (zo_i (Or.inr rfl) (bd_i e1))))), gi.tr e2, e3⟩
    · rw [if_neg (fun z => h11 z.1)]
      obtain ⟨M', e1, e2, e3⟩ := ih (p + 1) w M (by omega) hX hXo hr hw
      refine ⟨M', ?_, e2, e3⟩
      rw [tX11_wantParts_16]
      refine rd_i rfl hr.1 (rd_i hr.2.1 hr.2.2.2.2.1.k (clI_i hr.2.2.2.2.1.size (it_f (nI_ge (by omega) (by omega)) (rd_i rfl hr.1 (rd_i hr.2.1 hr.2.2.2.2.1.k (clR_i k1 (ck_s rfl k3.1 (rd_i rfl k3.1 (it_t (fun z => h11 (k3.2.2.1.symm.trans z)) (it_t rfl ?_))))))))))
      rw [nI_1]
      exact e1
theorem c_ct41 {as : List Nat} {o : Nat} (aw : AW E R F W O T S jW jO) (hl : O.length ≤ 164) (ho : o < O.length) : ∀ (k : Nat) (w : Nat → Bool) (N : Nat) (M : Mem), k ≤ o + 1 → XI x E R F W O T S jW jO M → XOa x M as O → WK M as w (o + 1) → ∃ M', rn PP 137 41 [some (pR (some x)), none, some (pI (nI N)), some (pI (nI k + (-1))), none] [] M = some (some (pI (nI (wnt R O k w N).1)), M') ∧ GI (fun j _ => j = 452) M M' := by
  intro k
  induction k with
  | zero =>
    intro w N M hk hX hXo hw
    refine ⟨M, ?_, GI.rf⟩
    rw [tX11_countToKeep_41]
    exact it_t (by decide) rfl
  | succ k ih =>
    intro w N M hk hX hXo hw
    obtain ⟨q, hq⟩ : ∃ q, O[k]? = some q := ⟨_, List.getElem?_eq_getElem (by omega)⟩
    obtain ⟨a, ha, ga, xa, ca⟩ := hXo.at hq
    have hB := hX.1.1
    have m452 := hw k a (by omega) ha
    have l451 : gI M 451 a = lno O k := by
      rw [(ca.2.2.2.2 q rfl).2.1]
      unfold lno
      rw [getD_at hq]
    rw [nI_dec, wnt]
    have pre : ∀ {rr : Option Rt}, (if gI M 452 a = 0 then rn PP 137 41 [some (pR (some x)), none, some (pI (nI N)), some (pI (nI k + (-1))), none] [] M else rd (some a) 7 M fun a6 => if gI M 451 a6 = (-1) then rd (some x) 11 M fun a8 => clV (ex 138 5 [pR (some a8), pR (some a)] M) fun M7 => rn PP 137 41 [some (pR (some x)), none, some (pI (nI N + 1)), some (pI (nI k + (-1))), none] [] M7 else rn PP 137 41 [some (pR (some x)), none, some (pI (nI N)), some (pI (nI k + (-1))), none] [] M) = rr → rn PP 137 41 [some (pR (some x)), none, some (pI (nI N)), some (pI (nI k)), none] [] M = rr := fun {rr} hr' => by
      rw [tX11_countToKeep_41]
      exact it_f (nI_pos (by omega)) (rd_i rfl hB.k (rd_i hB.r5.1 hB.r5.2 (clR_i ga (ck_s rfl ca.1 (rd_i rfl ca.1 hr')))))
    by_cases g : w k = true ∧ lno O k = -1
    · rw [if_pos g]
      obtain ⟨rc, hrc, -⟩ := aw.2.2.2.1 k q hq
      obtain ⟨ra, c108, -, hr, -, -⟩ := c_recAt hB hX.2.2.1 hrc
      obtain ⟨M1, e1, g1, w1⟩ := c_want16 (ra := ra) (K := o + 1) aw hl hq ha hrc rc.1.length 0 w M (by omega) hX hXo hr hw
      rw [List.drop_zero, List.drop_zero] at w1
      have ech : chn R (O.getD k o0) = chl rc.1 q.2.1 := by
        unfold chn
        rw [getD_at hq, getD_at hrc]
      rw [ech]
      obtain ⟨hX1, f1⟩ := hX.f452 g1
      obtain ⟨M', e2, g2⟩ := ih _ (N + 1) M1 (by omega) hX1 (hXo.fr f1) w1
      refine ⟨M', pre (it_f (by rw [m452, g.1]; decide) (rd_i rfl ca.1 (it_t (by rw [l451]; exact g.2) (rd_i rfl hB.k (clV_i (M1 := M1) ?_ ?_))))), g1.tr g2⟩
      · rw [tX11_wantParts]
        refine rd_i rfl ca.1 (rd_i rfl hB.k ?_)
        rw [(ca.2.2.2.2 q rfl).1]
        exact clR_i c108 (it_f (fun z => nomatch z) e1)
      · rw [nI_1]
        exact e2
    · rw [if_neg g]
      obtain ⟨M', e2, g2⟩ := ih w N M (by omega) hX hXo hw
      refine ⟨M', pre ?_, g2⟩
      by_cases c : w k = true
      · exact it_f (by rw [m452, c]; decide) (rd_i rfl ca.1 (it_f (by rw [l451]; exact fun z => g ⟨c, z⟩) e2))
      · exact it_t (by rw [m452, Bool.eq_false_iff.mpr c]; rfl) e2
theorem c_ct2 {as : List Nat} {o : Nat} (hl : O.length ≤ 164) (ho : o < O.length) : ∀ (n i : Nat) (M : Mem), n + i = o + 1 → XI x E R F W O T S jW jO M → XOa x M as O → WK M as (fun i => decide (i = o)) i → ∃ M', rn PP 137 2 [some (pR (some x)), some (pI (nI o)), some (pI (nI i)), none, none] [] M = rn PP 137 41 [some (pR (some x)), none, some (pI 0), some (pI (nI o)), none] [] M' ∧ GI (fun j _ => j = 452) M M' ∧ WK M' as (fun i => decide (i = o)) (o + 1) := by
  intro n
  induction n with
  | zero =>
    intro i M hi hX hXo hw
    refine ⟨M, ?_, GI.rf, by rw [show o + 1 = i by omega]; exact hw⟩
    rw [tX11_countToKeep_2]
    exact it_t (nI_lt (by omega) (by omega)) rfl
  | succ n ih =>
    intro i M hi hX hXo hw
    have hB := hX.1.1
    obtain ⟨q, hq⟩ : ∃ q, O[i]? = some q := ⟨_, List.getElem?_eq_getElem (by omega)⟩
    obtain ⟨a, ha, ga, xa, ca⟩ := hXo.at hq
    have key : ∀ v : Int32, v = b32 (decide (i = o)) → ∃ M', rn PP 137 2 [some (pR (some x)), some (pI (nI o)), some (pI (nI (i + 1))), none, none] [] (sI M 452 a v) = rn PP 137 41 [some (pR (some x)), none, some (pI 0), some (pI (nI o)), none] [] M' ∧ GI (fun j _ => j = 452) M M' ∧ WK M' as (fun i => decide (i = o)) (o + 1) := fun v hv => by
      have gi : GI (fun j _ => j = 452) M (sI M 452 a v) := GI.rf.sI rfl
      obtain ⟨hX1, f1⟩ := hX.f452 gi
      obtain ⟨M', e1, e2, e3⟩ := ih (i + 1) (sI M 452 a v) (by omega) hX1 (hXo.fr f1) (fun j b hj hb => by
        rw [gI_sI]
        by_cases c : j = i
        · subst c
          rw [ha] at hb
          cases hb
          rw [up2_at]
          exact hv
        · rw [up2_no (fun z => c (hXo.2.1 j i a (by rw [← z]; exact hb) ha))]
          exact hw j b (by omega) hb)
      exact ⟨M', e1, gi.tr e2, e3⟩
    by_cases c : i = o
    · obtain ⟨M', e1, e2, e3⟩ := key 1 (by rw [decide_eq_true c]; rfl)
      refine ⟨M', ?_, e2, e3⟩
      rw [tX11_countToKeep_2]
      refine it_f (nI_nl0 (by omega) (by omega)) (rd_i rfl hB.k (rd_i hB.r5.1 hB.r5.2 (clR_i ga (ck_s rfl ca.1 (it_f (not_not_intro (by rw [c])) (rd_i rfl ca.1 (zo_i (Or.inr rfl) (bd_i ?_))))))))
      rw [nI_1]
      exact e1
    · obtain ⟨M', e1, e2, e3⟩ := key 0 (by rw [decide_eq_false c]; rfl)
      refine ⟨M', ?_, e2, e3⟩
      rw [tX11_countToKeep_2]
      refine it_f (nI_nl0 (by omega) (by omega)) (rd_i rfl hB.k (rd_i hB.r5.1 hB.r5.2 (clR_i ga (ck_s rfl ca.1 (it_t (fun z => c (nI_inj (by omega) (by omega) z)) (rd_i rfl ca.1 (zo_i (Or.inl rfl) (bd_i ?_))))))))
      rw [nI_1]
      exact e1
theorem c_count {o : Nat} (hX : XI x E R F W O T S jW jO M) (aw : AW E R F W O T S jW jO) (hl : O.length ≤ 164) (ho : o < O.length) : ∃ M', ex 137 5 [pR (some x), pI (nI o)] M = some (some (pI (nI (wnt R O (o + 1) (fun i => decide (i = o)) 0).1)), M') ∧ GI (fun j _ => j = 452) M M' := by
  obtain ⟨as, hXo⟩ := XO.a hX.2.2.2.2.2.1
  obtain ⟨M1, e1, g1, w1⟩ := c_ct2 (o := o) hl ho (o + 1) 0 M (by omega) hX hXo (fun i a hi => by omega)
  obtain ⟨hX1, f1⟩ := hX.f452 g1
  obtain ⟨M2, e2, g2⟩ := c_ct41 (o := o) aw hl ho (o + 1) _ 0 M1 (Nat.le_refl _) hX1 (hXo.fr f1) w1
  refine ⟨M2, ?_, g1.tr g2⟩
  rw [tX11_countToKeep]
  refine e1.trans ?_
  rw [nI_dec] at e2
  exact e2
def fcI (c : Option Nat) : Int32 := match c with
  | some k => nI k
  | none => -1
theorem fck_c {c : Nat} {cs : List Nat} : fck O (c :: cs) = if lno O c = -1 then some c else fck O cs := by
  unfold fck
  rw [List.find?_cons]
  by_cases h : lno O c = -1
  · rw [decide_eq_true h, if_pos h]
  · rw [decide_eq_false h, if_neg h]
theorem c_first {o a : Nat} {q : TO} (hX : XI x E R F W O T S jW jO M) (aw : AW E R F W O T S jW jO) (hl : O.length ≤ 164) (hq : O[o]? = some q) (hc : cO M (some q) a) : ex 140 5 [pR (some x), pR (some a)] M = some (some (pI (fcI (fck O (chn R q)))), M) := by
  obtain ⟨rc, hrc, hvl, -, hval⟩ := aw.2.2.2.1 o q hq
  have ho : o < O.length := (List.getElem?_eq_some_iff.mp hq).1
  have hB := hX.1.1
  obtain ⟨ra, c108, -, hr, -, -⟩ := c_recAt hB hX.2.2.1 hrc
  obtain ⟨c1, c2, c3, c4, c5⟩ := id hc
  obtain ⟨d1, d2, d3, d4, d5⟩ := c5 q rfl
  have h1002 := hr.2.2.2.2.1.len
  have key : ∀ n p : Nat, n + p = rc.1.length → rn PP 140 17 [some (pR (some x)), some (pR (some a)), some (pR (some ra)), some (pI (nI p)), none] [] M = some (some (pI (fcI (fck O (chl (rc.1.drop p) (q.2.1.drop p))))), M) := by
    intro n
    induction n with
    | zero =>
      intro p hp
      rw [List.drop_of_length_le (show rc.1.length ≤ p by omega), chl_n, tX11_firstPartToKeep_17]
      exact rd_i rfl hr.1 (rd_i hr.2.1 hr.2.2.2.2.1.k (clI_i hr.2.2.2.2.1.size (it_t (nI_le (by omega) (by omega)) rfl)))
    | succ n ih =>
      intro p hp
      obtain ⟨t, ht, hdt⟩ := drop_get (l := rc.1) (i := p) (by omega)
      obtain ⟨v, hv, hdv⟩ := drop_get (l := q.2.1) (i := p) (by omega)
      obtain ⟨kt, k1, k2, k3, -⟩ := isO.at hr.2.2.2.2.1 ht
      have e1 := ih (p + 1) (by omega)
      rw [hdt, hdv, chl_c, tX11_firstPartToKeep_17]
      refine rd_i rfl hr.1 (rd_i hr.2.1 hr.2.2.2.2.1.k (clI_i hr.2.2.2.2.1.size (it_f (nI_ge (by omega) (by omega)) (rd_i rfl hr.1 (rd_i hr.2.1 hr.2.2.2.2.1.k (clR_i k1 (ck_s rfl k3.1 (rd_i rfl k3.1 ?_))))))))
      rw [nI_1]
      by_cases h11 : t.2.1 = 11
      · refine it_f (not_not_intro (k3.2.2.1.trans h11)) (rd_i rfl c1 (ix_i (n := p) c2 (Or.inl c3) rfl (by rw [c4]; omega) (by omega) (rd_i rfl hB.k ?_)))
        rw [d5 p v hv]
        rcases (hval p t v ht hv).2.2.2.2 h11 with hm | ⟨o', q', g, fq, u1, u2, u3, -⟩
        · rw [if_neg (fun z => z.2 hm)]
          exact clR_i (c_objAt_no hB hX.2.2.2.2.2.1 (by rw [hm]; exact Or.inl (by decide))) (it_t rfl e1)
        · have ne : v ≠ -1 := by rw [u3]; exact lN_ne (by omega)
          rw [if_pos ⟨h11, ne⟩, fck_c]
          obtain ⟨b, c111, -, cb⟩ := c_objAt hB hX.2.2.2.2.2.1 u2
          have l451 : gI M 451 b = lno O v.toInt32.toNatClampNeg := by
            rw [(cb.2.2.2.2 q' rfl).2.1, u3, lN_back (by omega)]
            unfold lno
            rw [getD_at u2]
          refine clR_i (v := some b) (M1 := M) (by rw [u3]; exact c111) (it_f (fun z => nomatch z) (rd_i rfl cb.1 ?_))
          by_cases c : lno O v.toInt32.toNatClampNeg = -1
          · rw [if_pos c]
            refine it_f (not_not_intro (l451.trans c)) (rd_i rfl c1 (ix_i (n := p) c2 (Or.inl c3) rfl (by rw [c4]; omega) (by omega) ?_))
            rw [d5 p v hv, u3, lN_back (by omega), lN_i]
            rfl
          · rw [if_neg c]
            exact it_t (fun z => c (l451.symm.trans z)) e1
      · have en : (if t.2.1 = 11 ∧ v ≠ -1 then v.toInt32.toNatClampNeg :: chl (rc.1.drop (p + 1)) (q.2.1.drop (p + 1)) else chl (rc.1.drop (p + 1)) (q.2.1.drop (p + 1))) = chl (rc.1.drop (p + 1)) (q.2.1.drop (p + 1)) := if_neg (fun z => h11 z.1)
        rw [en]
        exact it_t (fun z => h11 (k3.2.2.1.symm.trans z)) (it_t rfl e1)
  have k0 := key rc.1.length 0 (by omega)
  rw [List.drop_zero, List.drop_zero] at k0
  rw [tX11_firstPartToKeep]
  refine rd_i rfl c1 (rd_i rfl hB.k ?_)
  rw [d1]
  refine clR_i c108 (it_f (fun z => nomatch z) ?_)
  unfold chn
  rw [getD_at hrc]
  exact k0
end OPS
