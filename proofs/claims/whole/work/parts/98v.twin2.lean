/-! OBJECTS THAT ARE THE SAME: the class -/
section OPS
variable {x : Nat} {E E' : List TE} {R R' : List TR} {F F' : List TF} {W W' : List TW} {O O' : List TO} {T T' : List TL} {S S' : TS} {jW jO jW' jO' n : Nat} {M M' M1 : Mem}
/-- only objects have changed -/
theorem XI.frO {K L AJ : Nat → Prop} (h : XI x E R F W O T S jW jO M) (f : Fr x K L No AJ n M M1) (hK : ∀ k, K k → (448 ≤ k ∧ k ≤ 452) ∨ k = 711) (hL : ∀ l, L l → l = x + 5) (hJ : ∀ d, AJ d → x + 58 < d ∧ kd M (d - 1) = 7) (hO' : XO x M1 O' jO') : XI x E R F W O' T S jW jO' M1 := by
  obtain ⟨⟨hB, hv, hLI⟩, h1, h2, h3, h4, h5, h6, h7⟩ := h
  have nK : ∀ (ks : List Nat), ks.all (fun k => decide (¬ ((448 ≤ k ∧ k ≤ 452) ∨ k = 711))) = true → ∀ k ∈ ks, ¬ K k := fun ks hks k hk q => by
    have a1 := of_decide_eq_true (List.all_eq_true.mp hks k hk)
    exact a1 (hK k q)
  have nX : ∀ q ∈ xtab, ¬ K q.1 := fun q hq z => by
    have a1 : ∀ q ∈ xtab, ¬ ((448 ≤ q.1 ∧ q.1 ≤ 452) ∨ q.1 = 711) := by decide
    exact a1 q hq (hK _ z)
  exact ⟨⟨hB.fr f nX (fun a ha q => q), f.v, f.li⟩, h1.fr f (nK _ (by decide)) (fun q => by have := hL _ q; omega) (fun a ha _ q => by have := hL _ q; omega), h2.fr f (nK _ (by decide)) (fun q => by have := hL _ q; omega) (fun a ha _ _ => ⟨fun q => by have := hL _ q; omega, fun q => by have := hL _ q; omega⟩), h3.fr f (nK _ (by decide)) (fun q => by have := hL _ q; omega) (fun a ha _ => ⟨id, id⟩), h4.fr hB f (nK _ (by decide)) (fun q => by have := hL _ q; omega) (fun a ha hk q => by have := (hJ _ q).2; rw [Nat.add_sub_cancel] at this; omega), hO', h6.fr f (nK _ (by decide)) (fun q => by have := hL _ q; omega) ⟨fun k hk h5 q => by have := (hJ _ q).2; rw [Nat.add_sub_cancel] at this; omega, fun d hd q => by have := (hJ _ q).1; omega⟩, h7.fr hB f (nK _ (by decide)) ⟨id, id⟩ (fun q => by have := (hJ _ q).1; omega)⟩
/-- the o-th object: its address, and how the list goes on -/
theorem XO.at {o : Nat} {q : TO} (hO : XO x M O jO) (hq : O[o]? = some q) : ∃ a, ex 16 2 [pR (some (x + 5)), pI (nI o)] M = some (some (pR (some a)), M) ∧ x + 57 < a ∧ cO M (some q) a ∧ (∀ (M' : Mem) (q' : TO), (∀ as, isL M (x + 5) as → isL M' (x + 5) as) → gI M' 711 x = gI M 711 x → cO M' (some q') a → (∀ r b, b ≠ a → x + 57 < b → cO M r b → cO M' r b) → XO x M' (O.set o q') jO) := by
  have ho : o < O.length := (List.getElem?_eq_some_iff.mp hq).1
  have hat : (O.map some ++ List.replicate jO none)[o]? = some (some q) := by
    rw [List.getElem?_append_left (by rw [List.length_map]; exact ho), List.getElem?_map, hq]
    rfl
  obtain ⟨a, g1, g2, g3, g4, -⟩ := hO.1.at hat
  refine ⟨a, g1, g2, g3, fun M' q' h1 h2 h3 h4 => ⟨?_, by rw [h2, List.length_set]; exact hO.2⟩⟩
  have := g4 M' (cO M') (some q') h1 h3 h4
  rw [map_set_some _ _ O o _ ho rfl] at this
  exact this
theorem c_objAt_ad {o a : Nat} {q : TO} (hB : XB x M) (hO : XO x M O jO) (hq : O[o]? = some q) (hg : ex 16 2 [pR (some (x + 5)), pI (nI o)] M = some (some (pR (some a)), M)) : ex 111 3 [pR (some x), pJ (lN o)] M = some (some (pR (some a)), M) := by
  have hl := hO.len0
  have hcl : o < O.length := (List.getElem?_eq_some_iff.mp hq).1
  obtain ⟨a', g1, g2, g3, -⟩ := hO.at hq
  rw [hg] at g1
  have := rt_inj g1
  subst this
  rw [tX11_objectAt]
  refine it_f (fun z => ?_) (rd_i rfl hB.k (it_f (fun z => ?_) (rd_i rfl hB.k (rd_i hB.r5.1 hB.r5.2 ?_))))
  · have := cmp_lt0.mp z
    rw [I64_lt, lN_toInt (by omega)] at this
    have : (0 : Int64).toInt = 0 := rfl
    omega
  · rw [hO.2, nI_l (by omega), cmp_ge0, lN_le (by omega) (by omega)] at z
    omega
  · rw [lN_i]
    exact clR_i hg (ck_s rfl g3.1 rfl)
/-- an int field of one object -/
theorem c_oset {o a key : Nat} {q q' : TO} {v : Int32} (hX : XI x E R F W O T S jW jO M) (hq : O[o]? = some q) (hg : ex 16 2 [pR (some (x + 5)), pI (nI o)] M = some (some (pR (some a)), M)) (hk : (key = 450 ∧ q' = (q.1, q.2.1, q.2.2.1, v)) ∨ (key = 451 ∧ q' = (q.1, q.2.1, v, q.2.2.2)) ∨ (key = 452 ∧ q' = q)) : XI x E R F W (O.set o q') T S jW jO (sI M key a v) ∧ Fr x (fun k => k = key) No No No 0 M (sI M key a v) := by
  obtain ⟨⟨hB, hv, hL⟩, -, -, -, -, hO, -, -⟩ := id hX
  obtain ⟨a', g1, g2, ⟨u1, u2, u3, u4, u5⟩, g4⟩ := hO.at hq
  rw [hg] at g1
  have := rt_inj g1
  subst this
  have f : Fr x (fun k => k = key) No No No 0 M (sI M key a v) := (Fr.rf hv hL).bI (Or.inl ⟨by omega, rfl⟩)
  refine ⟨hX.frO f (fun k z => by omega) (fun _ z => z.elim) (fun _ z => z.elim) (g4 _ _ (f.ls id) ?_ ⟨u1, u2, u3, u4, fun w hw => ?_⟩ (fun r b hne hb hr => ?_)), f⟩
  · rw [gI_sI, up2_ne (by omega)]
  · cases hw
    obtain ⟨v1, v2, v3, v4, v5⟩ := u5 q rfl
    rcases hk with ⟨rfl, rfl⟩ | ⟨rfl, rfl⟩ | ⟨rfl, rfl⟩
    · exact ⟨by rw [gI_sI, up2_ne (by omega)]; exact v1, by rw [gI_sI, up2_ne (by omega)]; exact v2, by rw [gI_sI, up2_at], v4, v5⟩
    · exact ⟨by rw [gI_sI, up2_ne (by omega)]; exact v1, by rw [gI_sI, up2_at], by rw [gI_sI, up2_ne (by omega)]; exact v3, v4, v5⟩
    · exact ⟨by rw [gI_sI, up2_ne (by omega)]; exact v1, by rw [gI_sI, up2_ne (by omega)]; exact v2, by rw [gI_sI, up2_ne (by omega)]; exact v3, v4, v5⟩
  · obtain ⟨d1, d2, d3, d4, d5⟩ := hr
    refine ⟨d1, d2, d3, d4, fun w hw => ?_⟩
    obtain ⟨v1, v2, v3, v4, v5⟩ := d5 w hw
    exact ⟨by rw [gI_sI, up2_no hne]; exact v1, by rw [gI_sI, up2_no hne]; exact v2, by rw [gI_sI, up2_no hne]; exact v3, v4, v5⟩
/-- twins of the first i objects are known -/
def TwK (R : List TR) (O : List TO) (i : Nat) : Prop := ∀ (j : Nat) (q : TO), j < i → O[j]? = some q → q.2.2.2 = nI (twf R O j)
theorem c_twinOf {i : Nat} {v : Int64} (hX : XI x E R F W O T S jW jO M) (ht : TwK R O i) (hi : i ≤ O.length) (hl : O.length ≤ 164) (hv : v = -1 ∨ ∃ o', o' < i ∧ v = lN o') (htw : ∀ j, j < i → twf R O j < 2147483648) : ex 136 4 [pR (some x), pJ v] M = some (some (pJ (kv (twf R O) 11 v)), M) := by
  obtain ⟨⟨hB, -, -⟩, -, -, -, -, hO, -, -⟩ := id hX
  rw [tX11_twinOf]
  unfold kv
  rcases hv with rfl | ⟨o', h1, rfl⟩
  · rw [if_neg (fun z => z.2 rfl)]
    exact rd_i rfl hB.k (clR_i (c_objAt_no hB hO (Or.inl (by decide))) (it_t rfl rfl))
  · obtain ⟨q, hq⟩ : ∃ q, O[o']? = some q := ⟨_, List.getElem?_eq_getElem (by omega)⟩
    obtain ⟨k, g1, g2, g3⟩ := c_objAt hB hO hq
    have hne : lN o' ≠ -1 := fun z => by
      have := congrArg Int64.toInt z
      rw [lN_toInt (by omega)] at this
      have e : (-1 : Int64).toInt = -1 := rfl
      omega
    rw [if_pos ⟨rfl, hne⟩, lN_back (by omega)]
    refine rd_i rfl hB.k (clR_i g1 (it_f (fun z => nomatch z) (rd_i rfl g3.1 ?_)))
    rw [(g3.2.2.2.2 q rfl).2.2.1, ht o' q h1 hq, nI_l (htw o' h1)]
theorem kvL_at {tw : Nat → Nat} {ps : List TP} {vs : List Int64} {p : Nat} {t : TP} {v : Int64} (ht : ps[p]? = some t) (hv : vs[p]? = some v) : (kvL tw ps vs).drop p = kv tw t.2.1 v :: (kvL tw ps vs).drop (p + 1) := by
  have hz : (ps.zip vs)[p]? = some (t, v) := List.getElem?_zip_eq_some.mpr ⟨ht, hv⟩
  have hm : (kvL tw ps vs)[p]? = some (kv tw t.2.1 v) := by
    unfold kvL
    rw [List.getElem?_map, hz]
    rfl
  obtain ⟨h1, h2⟩ := List.getElem?_eq_some_iff.mp hm
  rw [List.drop_eq_getElem_cons h1, h2]
theorem kvL_len {tw : Nat → Nat} {ps : List TP} {vs : List Int64} (h : vs.length = ps.length) : (kvL tw ps vs).length = ps.length := by
  unfold kvL
  rw [List.length_map, List.length_zip, h, Nat.min_self]
theorem cons_dec {a b : Int64} {l r : List Int64} : decide (a :: l = b :: r) = (decide (a = b) && decide (l = r)) := by
  by_cases h1 : a = b
  · by_cases h2 : l = r
    · rw [decide_eq_true h1, decide_eq_true h2, decide_eq_true (by rw [h1, h2])]; rfl
    · rw [decide_eq_false h2, decide_eq_false (fun z => by injection z with z1 z2; exact h2 z2), Bool.and_false]
  · rw [decide_eq_false h1, decide_eq_false (fun z => by injection z with z1 z2; exact h1 z1)]; rfl
theorem c_areAlike {i k a b : Nat} {qa qb : TO} {nT : Nat} (hX : XI x E R F W O T S jW jO M) (hw : wfO E R F W O nT) (hl : O.length ≤ 164) (ht : TwK R O i) (hki : k < i) (hqa : O[k]? = some qa) (hqb : O[i]? = some qb) (ca : cO M (some qa) a) (cb : cO M (some qb) b) (hr : qa.1 = qb.1) : ex 135 10 [pR (some x), pR (some a), pR (some b)] M = some (some (pI (b32 (decide (ky R O k = ky R O i)))), M) := by
  obtain ⟨⟨hB, -, -⟩, -, hR, -, -, hO, -, -⟩ := id hX
  have hil : i < O.length := (List.getElem?_eq_some_iff.mp hqb).1
  obtain ⟨rc, y1, y2, -, -⟩ := hw k qa hqa
  obtain ⟨rc', z1, z2, -, -⟩ := hw i qb hqb
  rw [← hr, y1] at z1
  cases z1
  obtain ⟨ra, c108, -, cr, -, -⟩ := c_recAt hB hR y1
  obtain ⟨p1, p2, p3, p4, p5, p6⟩ := id cr
  obtain ⟨u1, u2, u3, u4, u5⟩ := ca
  obtain ⟨w1, w2, w3, w4, w5⟩ := cb
  obtain ⟨v1, v2, v3, v4, v5⟩ := u5 qa rfl
  obtain ⟨s1, s2, s3, s4, s5⟩ := w5 qb rfl
  have hpl := p5.len
  have er : (R.getD qa.1 ([], [], 0)).1 = rc.1 := by rw [List.getD_eq_getElem?_getD, y1]; rfl
  have htw : ∀ j, j < i → twf R O j < 2147483648 := fun j hj => by
    have := (twf_spec hw hl (show j < O.length by omega)).1
    omega
  have hkey : decide (ky R O k = ky R O i) = decide (kvL (twf R O) rc.1 qa.2.1 = kvL (twf R O) rc.1 qb.2.1) := by
    rw [ky_eq hqa, ky_eq hqb, keyO_eq, keyO_eq, ← hr, er]
    by_cases c : kvL (twf R O) rc.1 qa.2.1 = kvL (twf R O) rc.1 qb.2.1
    · rw [decide_eq_true c, c, decide_eq_true rfl]
    · rw [decide_eq_false c, decide_eq_false (fun z => c (by injection z))]
  rw [hkey]
  have key : ∀ (c p : Nat), c + p = rc.1.length → rn PP 135 18 [some (pR (some x)), some (pR (some a)), some (pR (some b)), some (pR (some ra)), some (pI (nI p)), none, none, none, none, none] [] M = some (some (pI (b32 (decide ((kvL (twf R O) rc.1 qa.2.1).drop p = (kvL (twf R O) rc.1 qb.2.1).drop p)))), M) := by
    intro c
    induction c with
    | zero =>
      intro p hp
      rw [tX11_areAlike_18, List.drop_of_length_le (by rw [kvL_len y2]; omega), List.drop_of_length_le (by rw [kvL_len z2]; omega), decide_eq_true rfl]
      exact rd_i rfl p1 (rd_i p2 p5.k (clI_i p5.size (it_t (nI_le (by omega) (by omega)) (zo_i (Or.inr rfl) rfl))))
    | succ c ih =>
      intro p hp
      have ih := ih (p + 1) (by omega)
      obtain ⟨t, htp⟩ : ∃ t, rc.1[p]? = some t := ⟨_, List.getElem?_eq_getElem (by omega)⟩
      obtain ⟨va, hva⟩ : ∃ v, qa.2.1[p]? = some v := ⟨_, List.getElem?_eq_getElem (by omega)⟩
      obtain ⟨vb, hvb⟩ : ∃ v, qb.2.1[p]? = some v := ⟨_, List.getElem?_eq_getElem (by omega)⟩
      obtain ⟨kp, g1, -, ⟨d1, d2, d3, d4, d5⟩, -⟩ := p5.at htp
      have xa := v5 p va hva
      have xb := s5 p vb hvb
      rw [tX11_areAlike_18, kvL_at htp hva, kvL_at htp hvb, cons_dec]
      refine rd_i rfl p1 (rd_i p2 p5.k (clI_i p5.size (it_f (nI_ge (by omega) (by omega)) (rd_i rfl p1 (rd_i p2 p5.k (clR_i g1 (ck_s rfl d1 (rd_i rfl d1 ?_))))))))
      rw [d3]
      by_cases h11 : t.2.1 = 11
      · rw [h11]
        have ea := c_twinOf (v := va) hX ht (by omega) hl (by
          rcases hw.v11 hqa y1 htp hva h11 with z | ⟨o', z1, z2⟩
          · exact Or.inl z
          · exact Or.inr ⟨o', by omega, z2⟩) htw
        have eb := c_twinOf (v := vb) hX ht (by omega) hl (hw.v11 hqb (by rw [← hr]; exact y1) htp hvb h11) htw
        refine it_f (not_not_intro rfl) (it_f (by decide) (rd_i rfl u1 (ix_i (n := p) u2 (Or.inl u3) rfl (by omega) (by omega) (rd_i rfl hB.k (clJ_i (by rw [xa]; exact ea) (it_f (by decide) (rd_i rfl w1 (ix_i (n := p) w2 (Or.inl w3) rfl (by omega) (by omega) (rd_i rfl hB.k (clJ_i (by rw [xb]; exact eb) ?_))))))))))
        by_cases ce : kv (twf R O) 11 va = kv (twf R O) 11 vb
        · rw [decide_eq_true ce, Bool.true_and]
          refine it_t (cmp_eq0.mpr ce) ?_
          rw [nI_1]
          exact ih
        · rw [decide_eq_false ce, Bool.false_and]
          exact it_f (fun z => ce (cmp_eq0.mp z)) (zo_i (Or.inl rfl) rfl)
      · have k1 : kv (twf R O) t.2.1 va = va := if_neg (fun z => h11 z.1)
        have k2 : kv (twf R O) t.2.1 vb = vb := if_neg (fun z => h11 z.1)
        rw [k1, k2]
        refine it_t h11 (it_t rfl (rd_i rfl u1 (ix_i (n := p) u2 (Or.inl u3) rfl (by omega) (by omega) (it_t rfl (rd_i rfl w1 (ix_i (n := p) w2 (Or.inl w3) rfl (by omega) (by omega) ?_))))))
        rw [xa, xb]
        by_cases ce : va = vb
        · rw [decide_eq_true ce, Bool.true_and]
          refine it_t (cmp_eq0.mpr ce) ?_
          rw [nI_1]
          exact ih
        · rw [decide_eq_false ce, Bool.false_and]
          exact it_f (fun z => ce (cmp_eq0.mp z)) (zo_i (Or.inl rfl) rfl)
  rw [tX11_areAlike]
  refine rd_i rfl u1 (rd_i rfl hB.k ?_)
  rw [v1]
  refine clR_i c108 (it_f (fun z => nomatch z) ?_)
  have := key rc.1.length 0 (by omega)
  rw [List.drop_zero, List.drop_zero] at this
  exact this
theorem c_firstAlike {i : Nat} {qb : TO} {nT : Nat} (hX : XI x E R F W O T S jW jO M) (hw : wfO E R F W O nT) (hl : O.length ≤ 164) (ht : TwK R O i) (hqb : O[i]? = some qb) : ex 134 5 [pR (some x), pI (nI i)] M = some (some (pI (nI (twf R O i))), M) := by
  obtain ⟨⟨hB, -, -⟩, -, hR, -, -, hO, -, -⟩ := id hX
  have hil : i < O.length := (List.getElem?_eq_some_iff.mp hqb).1
  obtain ⟨b, gb, -, cb, -⟩ := hO.at hqb
  obtain ⟨t1, t2, t3⟩ := twf_spec hw hl hil
  obtain ⟨rcb, yb, -⟩ := hw i qb hqb
  have hRl : R.length ≤ 1002 := isO.len hR
  have hbr : qb.1 < R.length := (List.getElem?_eq_some_iff.mp yb).1
  have key : ∀ (c k : Nat), c + k = i → (∀ j, j < k → ky R O j ≠ ky R O i) → rn PP 134 14 [some (pR (some x)), some (pI (nI i)), some (pR (some b)), some (pI (nI k)), none] [] M = some (some (pI (nI (twf R O i))), M) := by
    intro c
    induction c with
    | zero =>
      intro k hk hno
      rw [tX11_firstAlike_14]
      refine it_t (nI_le (by omega) (by omega)) ?_
      by_cases z : twf R O i < i
      · exact absurd t2 (hno _ (by omega))
      · rw [show twf R O i = i by omega]
    | succ c ih =>
      intro k hk hno
      obtain ⟨qa, hqa⟩ : ∃ q, O[k]? = some q := ⟨_, List.getElem?_eq_getElem (by omega)⟩
      obtain ⟨a, ga, -, ca, -⟩ := hO.at hqa
      obtain ⟨rca, ya, -⟩ := hw k qa hqa
      have har : qa.1 < R.length := (List.getElem?_eq_some_iff.mp ya).1
      have ra := (ca.2.2.2.2 qa rfl).1
      have rb := (cb.2.2.2.2 qb rfl).1
      rw [tX11_firstAlike_14]
      refine it_f (nI_ge (by omega) (by omega)) (rd_i rfl hB.k (rd_i hB.r5.1 hB.r5.2 (clR_i ga (ck_s rfl ca.1 (rd_i rfl ca.1 (rd_i rfl cb.1 ?_))))))
      rw [ra, rb]
      have nx : ky R O k ≠ ky R O i → rn PP 134 14 [some (pR (some x)), some (pI (nI i)), some (pR (some b)), some (pI (nI k + 1)), none] [] M = some (some (pI (nI (twf R O i))), M) := fun hne => by
        rw [nI_1]
        exact ih (k + 1) (by omega) (fun j hj => by
          by_cases e : j = k
          · rw [e]; exact hne
          · exact hno j (by omega))
      by_cases hr : nI qa.1 = nI qb.1
      · have hr' : qa.1 = qb.1 := nI_inj (by omega) (by omega) hr
        refine it_f (not_not_intro hr) (rd_i rfl hB.k (clI_i (c_areAlike hX hw hl ht (by omega) hqa hqb ca cb hr') ?_))
        by_cases ce : ky R O k = ky R O i
        · rw [decide_eq_true ce]
          refine it_f (by decide) ?_
          have : ¬ twf R O i < k := fun z => hno _ z t2
          have : ¬ k < twf R O i := fun z => t3 _ z ce
          rw [show twf R O i = k by omega]
        · rw [decide_eq_false ce]
          exact it_t rfl (nx ce)
      · refine it_t hr (nx (fun z => hr ?_))
        rw [ky_eq hqa, ky_eq hqb, keyO_eq, keyO_eq] at z
        injection z with z1 z2
        rw [z1]
  rw [tX11_firstAlike]
  exact rd_i rfl hB.k (rd_i hB.r5.1 hB.r5.2 (clR_i gb (ck_s rfl cb.1 (key i 0 (by omega) (fun j hj => by omega)))))
end OPS
