/-! LINES LOOKED UP -/
section OPS
variable {x : Nat} {E E' : List TE} {R R' : List TR} {F F' : List TF} {W W' : List TW} {O O' : List TO} {T T' : List TL} {S S' : TS} {jW jO jW' jO' n : Nat} {M M' M1 : Mem}
def fndQ : List TQ → Int64 → Nat → Option Nat
  | [], _, _ => none
  | t :: r, nm, i => if t.1 = nm then some i else fndQ r nm (i + 1)
theorem fndQ_some {nm : Int64} : ∀ (l : List TQ) (i p : Nat), fndQ l nm i = some p → ∃ t, i ≤ p ∧ l[p - i]? = some t ∧ t.1 = nm := by
  intro l
  induction l with
  | nil => intro i p h; exact nomatch h
  | cons q l ih =>
    intro i p h
    unfold fndQ at h
    by_cases c : q.1 = nm
    · rw [if_pos c] at h
      cases h
      exact ⟨q, Nat.le_refl _, by rw [Nat.sub_self]; rfl, c⟩
    · rw [if_neg c] at h
      obtain ⟨t, h1, h2, h3⟩ := ih (i + 1) p h
      refine ⟨t, by omega, ?_, h3⟩
      rw [show p - i = (p - (i + 1)) + 1 by omega, List.getElem?_cons_succ]
      exact h2
theorem c_keptAs {ad : Nat → Nat} {q : TL} {a : Nat} (hc : cL x M ad q a) (nm : Int64) : ex 60 4 [pR (some a), pJ nm] M = some (some (pR ((fndQ q.2.2.1 nm 0).map ad)), M) := by
  obtain ⟨c1, c2, c3, c4, c5, c6, c7, pq, g1, g2, g3, g4, g5⟩ := hc
  have key : ∀ (n i : Nat), n + i = q.2.2.1.length → rn PP 60 2 [some (pR (some a)), some (pJ nm), none, some (pI (nI i))] [] M = some (some (pR ((fndQ (q.2.2.1.drop i) nm i).map ad)), M) := by
    intro n
    induction n with
    | zero =>
      intro i hi
      rw [tX6_keptAs_2]
      refine rd_i rfl c1 (al_i g1 (by rw [g2]; omega) (it_t ?_ ?_))
      · rw [g3]; exact nI_le (by omega) (by omega)
      · rw [List.drop_of_length_le (by omega)]; rfl
    | succ n ih =>
      intro i hi
      obtain ⟨r, hr, hd⟩ := drop_get (l := q.2.2.1) (i := i) (by omega)
      obtain ⟨y1, y2, z1, z2, -⟩ := g5 i r hr
      rw [tX6_keptAs_2, hd]
      refine rd_i rfl c1 (al_i g1 (by rw [g2]; omega) (it_f ?_ (rd_i rfl c1 (ix_i (n := i) g1 (Or.inr g2) rfl (by rw [g3]; omega) (by omega) (rd_i y1 z1 ?_)))))
      · rw [g3]; exact nI_ge (by omega) (by omega)
      · rw [z2]
        show _ = some (some (pR ((if r.1 = nm then some i else fndQ (q.2.2.1.drop (i + 1)) nm (i + 1)).map ad)), M)
        by_cases e : r.1 = nm
        · rw [if_pos e]
          refine it_f (not_not_intro (cmp_eq0.mpr e)) (rd_i rfl c1 (ix_i (n := i) g1 (Or.inr g2) rfl (by rw [g3]; omega) (by omega) ?_))
          rw [y1]
          rfl
        · rw [if_neg e]
          refine it_t (fun z => e (cmp_eq0.mp z)) ?_
          rw [nI_1]
          exact ih (i + 1) (by omega)
  rw [tX6_keptAs]
  have := key q.2.2.1.length 0 (by omega)
  rw [List.drop_zero] at this
  exact this
def kpI (l : Nat) (o : Option Nat) : Int32 := match o with
  | none => -1
  | some p => nI (6 * l + p)
theorem m_keptPart {m l : Nat} {q : TL} (mB : MB m M) (mL : ML m M T) (hq : T[l]? = some q) (nm : Int64) : ex 218 5 [pR (some m), pI (nI l), pJ nm] M = some (some (pI (kpI l (fndQ q.2.2.1 nm 0))), M) := by
  have hl : l < T.length := (List.getElem?_eq_some_iff.mp hq).1
  have h64 := mL.2.1
  obtain ⟨y1, y2, y3, y4, y5, y6⟩ := mL.2.2 l q hq
  have key : ∀ (n i : Nat), n + i = q.2.2.1.length → rn PP 218 3 [some (pR (some m)), some (pI (nI l)), some (pJ nm), none, some (pI (nI i))] [] M = some (some (pI (kpI l (fndQ (q.2.2.1.drop i) nm i))), M) := by
    intro n
    induction n with
    | zero =>
      intro i hi
      rw [tX12_keptPart_3]
      refine rd_i rfl mB.k (ix_m mB.a33 rfl (by omega) (by omega) ?_)
      rw [y4]
      refine it_t (nI_le (by omega) (by omega)) ?_
      rw [List.drop_of_length_le (by omega)]
      rfl
    | succ n ih =>
      intro i hi
      obtain ⟨r, hr, hd⟩ := drop_get (l := q.2.2.1) (i := i) (by omega)
      obtain ⟨z1, -⟩ := y6 i r hr
      rw [tX12_keptPart_3, hd]
      refine rd_i rfl mB.k (ix_m mB.a33 rfl (by omega) (by omega) ?_)
      rw [y4]
      refine it_f (nI_ge (by omega) (by omega)) (rd_i rfl mB.k (ix_m mB.a34 (m6 l i) (by omega) (by omega) ?_))
      rw [z1]
      show _ = some (some (pI (kpI l (if r.1 = nm then some i else fndQ (q.2.2.1.drop (i + 1)) nm (i + 1)))), M)
      by_cases e : r.1 = nm
      · rw [if_pos e]
        refine it_f (not_not_intro (cmp_eq0.mpr e)) ?_
        rw [m6]
        rfl
      · rw [if_neg e]
        refine it_t (fun z => e (cmp_eq0.mp z)) ?_
        rw [nI_1]
        exact ih (i + 1) (by omega)
  rw [tX12_keptPart]
  have := key q.2.2.1.length 0 (by omega)
  rw [List.drop_zero] at this
  exact this
def isNm (t : TQ) : Bool := decide (t.2.1 = 8) || decide (t.2.1 = 9)
theorem c_hasNames {t : TQ} {k : Nat} (hc : cQ x M t k) : ex 55 1 [pR (some k)] M = some (some (pI (b32 (isNm t))), M) := by
  rw [tX5_hasNames]
  refine rd_i rfl hc.1 ?_
  rw [hc.2.2.1]
  unfold isNm
  by_cases h8 : t.2.1 = 8
  · rw [if_pos h8, decide_eq_true h8]
    exact zo_i (Or.inr rfl) rfl
  · rw [if_neg h8, decide_eq_false h8]
    by_cases h9 : t.2.1 = 9
    · rw [decide_eq_true h9]
      exact rd_i rfl hc.1 (it_f (not_not_intro (hc.2.2.1.trans h9)) (zo_i (Or.inr rfl) rfl))
    · rw [decide_eq_false h9]
      exact rd_i rfl hc.1 (it_t (fun z => h9 (hc.2.2.1.symm.trans z)) (zo_i (Or.inl rfl) rfl))
/-- words that there are lie in a row of longs -/
theorem held_k {t : TQ} {d : Nat} {k : Nat} (hB : XB x M) (g2 : (d = k + 1 ∧ kd M d = 21) ∨ (sR M 2 = some d ∧ kd M d = 31 ∧ d < x)) (g3 : ln M d = t.2.2.2.2.1.length) (h : 0 < t.2.2.2.2.1.length) : kd M d = 21 := by
  rcases g2 with ⟨-, g2⟩ | ⟨q1, -, q2⟩
  · exact g2
  · obtain ⟨no, n1, n2, n3, n4⟩ := hB.2.2.2.2.2.1
    rw [q1] at n1
    cases n1
    omega
theorem c_hasWord {t : TQ} {k : Nat} (hB : XB x M) (hc : cQ x M t k) (w : Int64) : ex 56 4 [pR (some k), pJ w] M = some (some (pI (b32 (isNm t && t.2.2.2.2.1.any (fun v => decide (v = w))))), M) := by
  have e55 := c_hasNames hc
  obtain ⟨c1, c2, c3, c4, c5, c6, ⟨d, g1, g2, g3, g4, g5⟩, c8⟩ := hc
  have kd20 : 20 ≤ kd M d ∧ kd M d < 40 := by
    rcases g2 with ⟨-, g2⟩ | ⟨-, g2, -⟩ <;> omega
  have key : ∀ (n i : Nat), n + i = t.2.2.2.2.1.length → rn PP 56 2 [some (pR (some k)), some (pJ w), none, some (pI (nI i))] [] M = some (some (pI (b32 (isNm t && (t.2.2.2.2.1.drop i).any (fun v => decide (v = w))))), M) := by
    intro n
    induction n with
    | zero =>
      intro i hi
      rw [tX5_hasWord_2, List.drop_of_length_le (by omega), List.any_nil, Bool.and_false]
      refine rd_i rfl c1 (clI_i e55 ?_)
      cases isNm t with
      | false => exact it_t rfl (zo_i (Or.inl rfl) rfl)
      | true =>
        refine it_f (by decide) (rd_i rfl c1 (al_i g1 kd20 (it_t ?_ (zo_i (Or.inl rfl) rfl))))
        rw [g3]; exact nI_le (by omega) (by omega)
    | succ n ih =>
      intro i hi
      obtain ⟨r, hr, hd⟩ := drop_get (l := t.2.2.2.2.1) (i := i) (by omega)
      have k21 : kd M d = 21 := held_k hB g2 g3 (by omega)
      have ih := ih (i + 1) (by omega)
      rw [tX5_hasWord_2, hd, List.any_cons]
      refine rd_i rfl c1 (clI_i e55 ?_)
      cases hnm : isNm t with
      | false => exact it_t rfl (zo_i (Or.inl rfl) rfl)
      | true =>
        rw [hnm] at ih
        refine it_f (by decide) (rd_i rfl c1 (al_i g1 kd20 (it_f ?_ (rd_i rfl c1 (ix_i (n := i) g1 (Or.inl k21) rfl (by omega) (by omega) ?_)))))
        · rw [g3]; exact nI_ge (by omega) (by omega)
        · rw [g5 i r hr]
          by_cases e : r = w
          · rw [decide_eq_true e]
            exact it_f (not_not_intro (cmp_eq0.mpr e)) (zo_i (Or.inr rfl) rfl)
          · rw [decide_eq_false e, Bool.false_or]
            refine it_t (fun z => e (cmp_eq0.mp z)) ?_
            rw [nI_1]
            exact ih
  rw [tX5_hasWord]
  have := key t.2.2.2.2.1.length 0 (by omega)
  rw [List.drop_zero] at this
  exact this
/-- a word is the name of a constant between two others -/
def inRg (q : TE) (lo hi : Int32) (v : Int64) : Bool := decide (¬ fndC q.1 v 0 = -1 ∧ ¬ fndC q.1 v 0 < lo ∧ ¬ hi < fndC q.1 v 0)
theorem c_hasOrd {t : TQ} {k ae : Nat} {qe : TE} {lo hi : Int32} (hB : XB x M) (hc : cQ x M t k) (he : cE x M qe ae) : ex 57 6 [pR (some k), pR (some ae), pI lo, pI hi] M = some (some (pI (b32 (isNm t && t.2.2.2.2.1.any (inRg qe lo hi)))), M) := by
  have e55 := c_hasNames hc
  obtain ⟨c1, c2, c3, c4, c5, c6, ⟨d, g1, g2, g3, g4, g5⟩, c8⟩ := hc
  have kd20 : 20 ≤ kd M d ∧ kd M d < 40 := by
    rcases g2 with ⟨-, g2⟩ | ⟨-, g2, -⟩ <;> omega
  have key : ∀ (n i : Nat), n + i = t.2.2.2.2.1.length → rn PP 57 3 [some (pR (some k)), some (pR (some ae)), some (pI lo), some (pI hi), some (pI (nI i)), none] [] M = some (some (pI (b32 (isNm t && (t.2.2.2.2.1.drop i).any (inRg qe lo hi)))), M) := by
    intro n
    induction n with
    | zero =>
      intro i hi'
      rw [tX5_hasOrdinal_3, List.drop_of_length_le (by omega), List.any_nil, Bool.and_false]
      refine rd_i rfl c1 (clI_i e55 ?_)
      cases isNm t with
      | false => exact it_t rfl (zo_i (Or.inl rfl) rfl)
      | true =>
        refine it_f (by decide) (rd_i rfl c1 (al_i g1 kd20 (it_t ?_ (zo_i (Or.inl rfl) rfl))))
        rw [g3]; exact nI_le (by omega) (by omega)
    | succ n ih =>
      intro i hi'
      obtain ⟨r, hr, hd⟩ := drop_get (l := t.2.2.2.2.1) (i := i) (by omega)
      have k21 : kd M d = 21 := held_k hB g2 g3 (by omega)
      have ih := ih (i + 1) (by omega)
      rw [tX5_hasOrdinal_3, hd, List.any_cons]
      refine rd_i rfl c1 (clI_i e55 ?_)
      cases hnm : isNm t with
      | false => exact it_t rfl (zo_i (Or.inl rfl) rfl)
      | true =>
        rw [hnm] at ih
        refine it_f (by decide) (rd_i rfl c1 (al_i g1 kd20 (it_f ?_ (rd_i rfl c1 (ix_i (n := i) g1 (Or.inl k21) rfl (by omega) (by omega) (rd_i rfl he.1 (clI_i (c_ordinalOf he _) ?_)))))))
        · rw [g3]; exact nI_ge (by omega) (by omega)
        · rw [g5 i r hr, nI_1]
          unfold inRg at ih ⊢
          by_cases e1 : fndC qe.1 r 0 = -1
          · rw [decide_eq_false (fun z => z.1 e1), Bool.false_or]
            exact it_t e1 ih
          · by_cases e2 : fndC qe.1 r 0 < lo
            · rw [decide_eq_false (fun z => z.2.1 e2), Bool.false_or]
              exact it_f e1 (it_t e2 ih)
            · by_cases e3 : hi < fndC qe.1 r 0
              · rw [decide_eq_false (fun z => z.2.2 e3), Bool.false_or]
                exact it_f e1 (it_f e2 (it_t e3 ih))
              · rw [decide_eq_true ⟨e1, e2, e3⟩]
                exact it_f e1 (it_f e2 (it_f e3 (zo_i (Or.inr rfl) rfl)))
  rw [tX5_hasOrdinal]
  have := key t.2.2.2.2.1.length 0 (by omega)
  rw [List.drop_zero] at this
  exact this
/-- what a line is asked -/
def hasL (q : TL) (part : Int64) (oc : Int32 → Bool) (P : Int64 → Bool) : Bool := match fndQ q.2.2.1 part 0 with
  | none => false
  | some p => match q.2.2.1[p]? with
    | none => false
    | some t => isNm t && (oc t.2.2.1 && t.2.2.2.2.1.any P)
def fdl : List Bool → Int32 → Nat → Nat → Int32
  | [], i, _, n => if i = -1 then nI n else -1
  | b :: t, i, k, n => if b = true then (if nI n = i then nI k else fdl t i (k + 1) (n + 1)) else fdl t i (k + 1) n
theorem c_foundLine {as : List Nat} {ad : Nat → Nat → Nat} {g : TL → Bool} (hB : XB x M) (h : XLa x M as ad T) (hg : ∀ (k a : Nat) (q : TL), as[k]? = some a → T[k]? = some q → gI M 390 a = b32 (g q)) (i : Int32) : ex 155 4 [pR (some x), pI i] M = some (some (pI (fdl (T.map g) i 0 0)), M) := by
  have hl := h.len
  have key : ∀ (c k n : Nat), c + k = T.length → n ≤ k → rn PP 155 4 [some (pR (some x)), some (pI i), some (pI (nI n)), some (pI (nI k))] [] M = some (some (pI (fdl ((T.drop k).map g) i k n)), M) := by
    intro c
    induction c with
    | zero =>
      intro k n hk hn
      rw [tX11_foundLine_4, List.drop_of_length_le (by omega)]
      refine rd_i rfl hB.k (rd_i hB.r10.1 hB.r10.2 (clI_i h.size (it_t (nI_le (by omega) (by omega)) ?_)))
      show _ = some (some (pI (if i = -1 then nI n else -1)), M)
      by_cases e : i = -1
      · rw [if_pos e]; exact it_f (not_not_intro e) rfl
      · rw [if_neg e]; exact it_t e rfl
    | succ c ih =>
      intro k n hk hn
      obtain ⟨q, hq, hd⟩ := drop_get (l := T) (i := k) (by omega)
      obtain ⟨a, g0, g1, g2, g3⟩ := h.at hq
      rw [tX11_foundLine_4, hd, List.map_cons]
      refine rd_i rfl hB.k (rd_i hB.r10.1 hB.r10.2 (clI_i h.size (it_f (nI_ge (by omega) (by omega)) (rd_i rfl hB.k (rd_i hB.r10.1 hB.r10.2 (clR_i g1 (ck_s rfl g3.1 (rd_i rfl g3.1 ?_))))))))
      rw [hg k a q g0 hq]
      show _ = some (some (pI (if g q = true then (if nI n = i then nI k else fdl ((T.drop (k + 1)).map g) i (k + 1) (n + 1)) else fdl ((T.drop (k + 1)).map g) i (k + 1) n)), M)
      cases g q with
      | false =>
        refine it_f (not_not_intro rfl) ?_
        rw [nI_1]
        exact ih (k + 1) n (by omega) (by omega)
      | true =>
        rw [if_pos rfl]
        refine it_t (by decide) ?_
        by_cases e : nI n = i
        · rw [if_pos e]; exact it_f (not_not_intro e) rfl
        · rw [if_neg e]
          refine it_t e ?_
          rw [nI_1, nI_1]
          exact ih (k + 1) (n + 1) (by omega) (by omega)
  rw [tX11_foundLine]
  have := key T.length 0 0 (by omega) (by omega)
  rw [List.drop_zero] at this
  exact this
theorem XLa.gi {as : List Nat} {ad : Nat → Nat → Nat} {Z : Nat → Nat → Prop} (h : XLa x M as ad T) (g : GI Z M M') (hv : PIv x M) (hL : LI M) (hZ : ∀ k a, Z k a → 3 ≤ k ∧ k ∉ [384, 385, 389, 321, 322, 325]) : XLa x M' as ad T := by
  have f : Fr x (fun _ => True) No No No 0 M M' := g.fr hv hL (fun k a q => ⟨(hZ k a q).1, trivial⟩)
  obtain ⟨h1, h2, h3, h4, h5⟩ := h
  refine ⟨f.ls id as h1, h2, h3, h4, fun l a q ha hq => ⟨(h5 l a q ha hq).1, (h5 l a q ha hq).2.gi g (fun j hj z => ?_) (fun p hp j hj z => ?_)⟩⟩
  · have := (hZ j a z).2
    revert hj this
    simp only [List.mem_cons, List.mem_nil_iff, or_false]
    omega
  · have := (hZ j _ z).2
    revert hj this
    simp only [List.mem_cons, List.mem_nil_iff, or_false]
    omega
end OPS
