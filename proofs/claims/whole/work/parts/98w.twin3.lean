/-! CALLS: same -/
section OPS
variable {x : Nat} {E E' : List TE} {R R' : List TR} {F F' : List TF} {W W' : List TW} {O O' : List TO} {T T' : List TL} {S S' : TS} {jW jO jW' jO' n : Nat} {M M' M1 : Mem}
theorem wfO.sh {nT nT' : Nat} (hw : wfO E R F W O nT) (h : shO O O') (hl : ∀ (o : Nat) (q : TO), O'[o]? = some q → q.2.2.1 = -1 ∨ ∃ l, l < nT' ∧ q.2.2.1 = nI l) : wfO E R F W O' nT' := by
  intro o q' hq'
  obtain ⟨q, hq, e1, e2⟩ := h.back hq'
  obtain ⟨rc, y1, y2, y3, y4⟩ := hw o q hq
  refine ⟨rc, by rw [e1]; exact y1, by rw [e2]; exact y2, hl o q' hq', fun p t v ht hv => ?_⟩
  obtain ⟨z1, z2, z3, z4, z5⟩ := y4 p t v ht (by rw [← e2]; exact hv)
  refine ⟨z1, z2, z3, z4, fun z => ?_⟩
  rcases z5 z with z5 | ⟨o', r, g, fq, u1, u2, u3, u4, u5, u6⟩
  · exact Or.inl z5
  · obtain ⟨r', w1, w2, -⟩ := h.2 o' r u2
    exact Or.inr ⟨o', r', g, fq, u1, w1, u3, u4, u5, by rw [w2]; exact u6⟩
def lnO (O O' : List TO) : Prop := ∀ (o : Nat) (q q' : TO), O[o]? = some q → O'[o]? = some q' → q'.2.2.1 = q.2.2.1
theorem wfO.shl {nT : Nat} (hw : wfO E R F W O nT) (h : shO O O') (hl : lnO O O') : wfO E R F W O' nT := hw.sh h (fun o q' hq' => by
  obtain ⟨q, hq, -, -⟩ := h.back hq'
  obtain ⟨rc, -, -, y3, -⟩ := hw o q hq
  rw [hl o q q' hq hq']
  exact y3)
theorem c_findTwins_loop : ∀ (n i : Nat) (O : List TO) (M : Mem), n + i = O.length → XI x E R F W O T S jW jO M → wfO E R F W O T.length → O.length ≤ 164 → TwK R O i → ∃ O' M', rn PP 133 5 [some (pR (some x)), some (pI (nI i))] [] M = some (none, sI M' 713 x (nI O.length)) ∧ XI x E R F W O' T S jW jO M' ∧ shO O O' ∧ lnO O O' ∧ TwK R O' O.length ∧ Fr x (fun k => k = 450) No No No 0 M M' := by
  intro n
  induction n with
  | zero =>
    intro i O M hi hX hw hl ht
    obtain ⟨⟨hB, hv, hL⟩, -, -, -, -, hO, -, -⟩ := id hX
    have e : i = O.length := by omega
    subst e
    refine ⟨O, M, ?_, hX, shO.rf, fun o q q' h1 h2 => by rw [h1] at h2; cases h2; rfl, ht, Fr.rf hv hL⟩
    rw [tX11_findTwins_5]
    refine rd_i rfl hB.k (it_t ?_ (rd_i rfl hB.k (rd_i rfl hB.k (bd_i ?_))))
    · rw [hO.2]; exact nI_le (by omega) (by omega)
    · rw [hO.2]
  | succ n ih =>
    intro i O M hi hX hw hl ht
    obtain ⟨⟨hB, hv, hL⟩, -, -, -, -, hO, -, -⟩ := id hX
    obtain ⟨q, hq⟩ : ∃ q, O[i]? = some q := ⟨_, List.getElem?_eq_getElem (by omega)⟩
    obtain ⟨a, ga, -, ca, -⟩ := hO.at hq
    have e134 := c_firstAlike hX hw hl ht hq
    obtain ⟨hX1, f1⟩ := c_oset (v := nI (twf R O i)) hX hq ga (Or.inl ⟨rfl, rfl⟩)
    have sh : shO O (O.set i (q.1, q.2.1, q.2.2.1, nI (twf R O i))) := shO.set hq rfl rfl
    have ln1 : lnO O (O.set i (q.1, q.2.1, q.2.2.1, nI (twf R O i))) := fun o r r' h1 h2 => by
      rw [List.getElem?_set] at h2
      by_cases c : i = o
      · subst c
        rw [if_pos rfl, if_pos (by omega)] at h2
        rw [hq] at h1
        cases h1
        cases h2
        rfl
      · rw [if_neg c, h1] at h2
        cases h2
        rfl
    obtain ⟨O', M', e1, e2, e3, e4, e5, e6⟩ := ih (i + 1) _ _ (by rw [List.length_set]; omega) hX1 (hw.shl sh ln1) (by rw [List.length_set]; exact hl) (fun j r hj hr => by
      rw [twf_sh sh]
      rw [List.getElem?_set] at hr
      by_cases c : i = j
      · subst c
        rw [if_pos rfl, if_pos (by omega)] at hr
        cases hr
        rfl
      · rw [if_neg c] at hr
        exact ht j r (by omega) hr)
    rw [List.length_set] at e1 e5
    refine ⟨O', M', ?_, e2, sh.tr e3, fun o r r' h1 h2 => ?_, e5, f1.tr e6⟩
    · rw [tX11_findTwins_5, ← e1]
      refine rd_i rfl hB.k (it_f ?_ (rd_i rfl hB.k (rd_i hB.r5.1 hB.r5.2 (clR_i ga (ck_s rfl ca.1 (rd_i rfl hB.k (clI_i e134 (rd_i rfl ca.1 (bd_i ?_)))))))))
      · rw [hO.2]; exact nI_ge (by omega) (by omega)
      · rw [nI_1]
    · obtain ⟨r1, w1, -, -⟩ := sh.2 o r h1
      rw [e4 o r1 r' w1 h2, ln1 o r r1 h1 w1]
theorem XS.s713 {S : TS} {k : Nat} (h : XS x M S) : XS x (sI M 713 x (nI k)) (S.1, S.2.1, S.2.2.1, S.2.2.2.1, S.2.2.2.2.1, S.2.2.2.2.2.1, S.2.2.2.2.2.2.1, k) := by
  obtain ⟨s1, s2, s3, s4, s5, s6, s7, s8, s9⟩ := h
  refine ⟨?_, ?_, ?_, s4, s5, s6, ?_, ?_, ?_⟩
  · rw [gI_sI, up2_ne (by omega)]; exact s1
  · rw [gI_sI, up2_ne (by omega)]; exact s2
  · rw [gI_sI, up2_ne (by omega)]; exact s3
  · rw [gI_sI, up2_ne (by omega)]; exact s7
  · rw [gI_sI, up2_ne (by omega)]; exact s8
  · rw [gI_sI, up2_at]
def twS (S : TS) (k : Nat) : TS := (S.1, S.2.1, S.2.2.1, S.2.2.2.1, S.2.2.2.2.1, S.2.2.2.2.2.1, S.2.2.2.2.2.2.1, k)
theorem c_findTwins (hX : XI x E R F W O T S jW jO M) (aw : AW E R F W O T S jW jO) (hl : O.length ≤ 164) : ∃ O' M', ex 133 2 [pR (some x)] M = some (none, M') ∧ XI x E R F W O' T (twS S O.length) jW jO M' ∧ shO O O' ∧ lnO O O' ∧ TwK R O' O.length ∧ Fr x (fun k => k = 450 ∨ k = 713) No No No 0 M M' ∧ AW E R F W O' T (twS S O.length) jW jO := by
  obtain ⟨⟨hB, hv, hL⟩, -, -, -, -, hO, -, hS⟩ := id hX
  obtain ⟨a1, a2, a3, a4, a5, b1, b2, b3, b4, b5, b6, b7, b8, b9, b10⟩ := aw
  obtain ⟨O', M', e1, e2, e3, e4, e5, e6⟩ := c_findTwins_loop (O.length - S.2.2.2.2.2.2.2) S.2.2.2.2.2.2.2 O M (by omega) hX a4 hl (fun j q hj hq => by
    rw [b10 j q hj hq, twT_get _ (by omega)])
  have f2 : Fr x (fun k => k = 713) No No No 0 M' (sI M' 713 x (nI O.length)) := (Fr.rf e6.v e6.li).bI (Or.inl ⟨by omega, rfl⟩)
  refine ⟨O', _, ?_, e2.frS f2 (fun k q => by omega) (fun _ q => q.elim) (fun _ q => q.elim) e2.2.2.2.2.2.2.2.s713, e3, e4, e5, (e6.mo (n' := 0) (Nat.le_refl _) (fun k q => Or.inl q) (fun _ => id) (fun _ => id) (fun _ => id)).tr (f2.mo (n' := 0) (Nat.le_refl _) (fun k q => Or.inr q) (fun _ => id) (fun _ => id) (fun _ => id)), a1, a2, a3, a4.shl e3 e4, by rw [e3.1]; exact a5, b1, b2, b3, b4, by rw [e3.1]; exact b5, b6, b7, by rw [e3.1]; exact b8, ?_, fun i q hi hq => ?_⟩
  · rw [tX11_findTwins]
    refine rd_i rfl hB.k ?_
    rw [hS.2.2.2.2.2.2.2.2]
    exact e1
  · show O.length ≤ O'.length
    rw [e3.1]
    exact Nat.le_refl _
  · have hi : i < O.length := hi
    rw [twT_get _ (by rw [e3.1]; exact hi)]
    exact e5 i q hi hq
-- the model
theorem MI.u30 {m : Nat} {g : Nat → Int32} (h : MI m E R F W O T S M) : MI m E R F W O T S (uI M (m + 30) g) := by
  obtain ⟨h1, h2, h3, h4, h5, h6, h7, h8⟩ := h
  have a : ∀ i, i ≠ 30 → aI (uI M (m + 30) g) (m + i) = aI M (m + i) := fun i hi => by rw [aI_uI, up1_no (by omega)]
  exact ⟨h1, h2.cg rfl (a _ (by omega)) (a _ (by omega)) (a _ (by omega)) (a _ (by omega)) (a _ (by omega)) rfl, h3.cg rfl (a _ (by omega)) (a _ (by omega)) (a _ (by omega)) (a _ (by omega)) (a _ (by omega)) (a _ (by omega)) (a _ (by omega)) rfl rfl rfl rfl, h4.cg rfl (a _ (by omega)) (a _ (by omega)), h5.cg rfl (a _ (by omega)) (a _ (by omega)) rfl, h6.cg rfl (a _ (by omega)) (a _ (by omega)) rfl, h7.cg rfl (a _ (by omega)) (a _ (by omega)) (a _ (by omega)) (a _ (by omega)) (a _ (by omega)) (a _ (by omega)) (a _ (by omega)) (a _ (by omega)) rfl rfl rfl, h8.cg rfl rfl rfl rfl rfl rfl rfl rfl rfl rfl (a _ (by omega)) rfl⟩
theorem m_areLike {m k o : Nat} {qa qb : TO} {nT : Nat} (hM : MI m E R F W O T S M) (hw : wfO E R F W O nT) (hko : k < o) (hqa : O[k]? = some qa) (hqb : O[o]? = some qb) (hg : ∀ j, j < o → aI M (m + 30) j = nI (twf R O j)) : ex 207 10 [pR (some m), pI (nI k), pI (nI o)] M = some (some (pI (b32 (decide (ky R O k = ky R O o)))), M) := by
  obtain ⟨mB, -, mR, -, -, mO, -, -⟩ := id hM
  have hl := mO.2.1
  have hRl := mR.2.1
  have hol : o < O.length := (List.getElem?_eq_some_iff.mp hqb).1
  obtain ⟨rc, y1, y2, -, -⟩ := hw k qa hqa
  obtain ⟨rb, z1, z2, -, -⟩ := hw o qb hqb
  have hra : qa.1 < R.length := (List.getElem?_eq_some_iff.mp y1).1
  have hrb : qb.1 < R.length := (List.getElem?_eq_some_iff.mp z1).1
  obtain ⟨v1, v2, v3, v4⟩ := mO.2.2 k qa hqa
  obtain ⟨s1, s2, s3, s4⟩ := mO.2.2 o qb hqb
  obtain ⟨⟨t1, t2, t3⟩, -⟩ := mR.2.2.1 qa.1 rc y1
  have er : (R.getD qa.1 ([], [], 0)).1 = rc.1 := by rw [List.getD_eq_getElem?_getD, y1]; rfl
  have htw : ∀ j, j < o → twf R O j < 2147483648 := fun j hj => by
    have := (twf_spec hw hl (show j < O.length by omega)).1
    omega
  have key0 : ∀ p, rn PP 207 27 [some (pR (some m)), some (pI (nI k)), some (pI (nI o)), some (pI (nI qa.1)), some (pI 0), some (pI (nI p)), none, none, none, none] [] M = some (some (pI 0), M) := fun p => by
    rw [tX12_areLike_27]
    refine rd_i rfl mB.k (ix_m (n := qa.1) mB.a5 rfl (by omega) (by omega) ?_)
    by_cases c : aI M (m + 5) qa.1 ≤ nI p
    · exact it_t c (zo_i (Or.inl rfl) rfl)
    · exact it_f c (it_t rfl (zo_i (Or.inl rfl) rfl))
  rw [tX12_areLike]
  refine rd_i rfl mB.k (ix_m (n := k) mB.a25 rfl (by omega) (by omega) (rd_i rfl mB.k (ix_m (n := o) mB.a25 rfl (by omega) (by omega) ?_)))
  rw [v2, s2]
  by_cases hr : qb.1 = qa.1
  · rw [hr, y1] at z1
    cases z1
    have hkey : decide (ky R O k = ky R O o) = decide (kvL (twf R O) rc.1 qa.2.1 = kvL (twf R O) rc.1 qb.2.1) := by
      rw [ky_eq hqa, ky_eq hqb, keyO_eq, keyO_eq, hr, er]
      by_cases c : kvL (twf R O) rc.1 qa.2.1 = kvL (twf R O) rc.1 qb.2.1
      · rw [decide_eq_true c, c, decide_eq_true rfl]
      · rw [decide_eq_false c, decide_eq_false (fun z => c (by injection z))]
    rw [hkey]
    refine it_f (not_not_intro (by rw [hr])) ?_
    have key : ∀ (c p : Nat), c + p = rc.1.length → rn PP 207 27 [some (pR (some m)), some (pI (nI k)), some (pI (nI o)), some (pI (nI qa.1)), some (pI 1), some (pI (nI p)), none, none, none, none] [] M = some (some (pI (b32 (decide ((kvL (twf R O) rc.1 qa.2.1).drop p = (kvL (twf R O) rc.1 qb.2.1).drop p)))), M) := by
      intro c
      induction c with
      | zero =>
        intro p hp
        rw [tX12_areLike_27, List.drop_of_length_le (by rw [kvL_len y2]; omega), List.drop_of_length_le (by rw [kvL_len z2]; omega), decide_eq_true rfl]
        refine rd_i rfl mB.k (ix_m (n := qa.1) mB.a5 rfl (by omega) (by omega) (it_t ?_ (zo_i (Or.inr rfl) rfl)))
        rw [t2]; exact nI_le (by omega) (by omega)
      | succ c ih =>
        intro p hp
        have ih := ih (p + 1) (by omega)
        obtain ⟨t, htp⟩ : ∃ t, rc.1[p]? = some t := ⟨_, List.getElem?_eq_getElem (by omega)⟩
        obtain ⟨va, hva⟩ : ∃ v, qa.2.1[p]? = some v := ⟨_, List.getElem?_eq_getElem (by omega)⟩
        obtain ⟨vb, hvb⟩ : ∃ v, qb.2.1[p]? = some v := ⟨_, List.getElem?_eq_getElem (by omega)⟩
        have ea := v4 p va hva
        have eb := s4 p vb hvb
        have es := (t3 p t htp).2.1
        rw [tX12_areLike_27, kvL_at htp hva, kvL_at htp hvb, cons_dec]
        refine rd_i rfl mB.k (ix_m (n := qa.1) mB.a5 rfl (by omega) (by omega) (it_f ?_ (it_f (by decide) (rd_i rfl mB.k (ix_m (n := 6 * k + p) mB.a26 (m6 k p) (by omega) (by omega) (rd_i rfl mB.k (ix_m (n := 6 * o + p) mB.a26 (m6 o p) (by omega) (by omega) ?_)))))))
        · rw [t2]; exact nI_ge (by omega) (by omega)
        · rw [ea, eb, nI_1]
          by_cases ce : va = vb
          · subst ce
            rw [decide_eq_true rfl, Bool.true_and]
            exact it_t (cmp_eq0.mpr rfl) ih
          · refine it_f (fun z => ce (cmp_eq0.mp z)) (rd_i rfl mB.k (ix_m (n := 6 * qa.1 + p) mB.a7 (m6 qa.1 p) (by omega) (by omega) ?_))
            rw [es]
            by_cases h11 : t.2.1 = 11
            · refine it_f (not_not_intro h11) ?_
              rw [h11]
              have nl : ∀ o', o' < o → ¬ lN o' < 0 := fun o' h z => by
                rw [I64_lt, lN_toInt (by omega)] at z
                have : (0 : Int64).toInt = 0 := rfl
                omega
              have nm1 : ∀ o', o' < 2147483648 → lN o' ≠ -1 := fun o' h z => by
                have := congrArg Int64.toInt z
                rw [lN_toInt (by omega)] at this
                have e : (-1 : Int64).toInt = -1 := rfl
                omega
              have kvl : ∀ o', o' < o → kv (twf R O) 11 (lN o') = lN (twf R O o') := fun o' h => by
                unfold kv
                rw [if_pos ⟨rfl, nm1 o' (by omega)⟩, lN_back (by omega)]
              have kvm : kv (twf R O) 11 (-1) = -1 := if_neg (fun z => z.2 rfl)
              rcases hw.v11 hqa y1 htp hva h11 with rfl | ⟨oa, a1, rfl⟩
              · refine it_t (cmp_lt0.mpr (by decide)) ?_
                have : ¬ kv (twf R O) 11 (-1) = kv (twf R O) 11 vb := by
                  rcases hw.v11 hqb (by rw [hr]; exact y1) htp hvb h11 with rfl | ⟨ob, b1, rfl⟩
                  · exact absurd rfl ce
                  · rw [kvm, kvl ob b1]
                    exact fun z => nm1 _ (htw ob b1) z.symm
                rw [decide_eq_false this, Bool.false_and]
                exact key0 (p + 1)
              · refine it_f (fun z => nl oa (by omega) (cmp_lt0.mp z)) ?_
                rcases hw.v11 hqb (by rw [hr]; exact y1) htp hvb h11 with rfl | ⟨ob, b1, rfl⟩
                · refine it_t (cmp_lt0.mpr (by decide)) ?_
                  rw [kvm, kvl oa (by omega), decide_eq_false (nm1 _ (htw oa (by omega))), Bool.false_and]
                  exact key0 (p + 1)
                · refine it_f (fun z => nl ob b1 (cmp_lt0.mp z)) (rd_i rfl mB.k (ix_m (n := oa) mB.a30 (lN_i _) (by omega) (by omega) (rd_i rfl mB.k (ix_m (n := ob) mB.a30 (lN_i _) (by omega) (by omega) ?_))))
                  rw [hg oa (by omega), hg ob b1, kvl oa (by omega), kvl ob b1]
                  by_cases cw : twf R O oa = twf R O ob
                  · rw [cw, decide_eq_true rfl, Bool.true_and]
                    exact it_f (not_not_intro rfl) ih
                  · rw [decide_eq_false (fun z => cw ?_), Bool.false_and]
                    · exact it_t (fun z => cw (nI_inj (htw oa (by omega)) (htw ob b1) z)) (key0 (p + 1))
                    · have := congrArg Int64.toInt z
                      rw [lN_toInt (by have := htw oa (by omega); omega), lN_toInt (by have := htw ob b1; omega)] at this
                      omega
            · have k1 : kv (twf R O) t.2.1 va = va := if_neg (fun z => h11 z.1)
              have k2 : kv (twf R O) t.2.1 vb = vb := if_neg (fun z => h11 z.1)
              rw [k1, k2, decide_eq_false ce, Bool.false_and]
              exact it_t h11 (key0 (p + 1))
    have := key rc.1.length 0 (by omega)
    rw [List.drop_zero, List.drop_zero] at this
    exact this
  · have : ¬ ky R O k = ky R O o := fun z => by
      rw [ky_eq hqa, ky_eq hqb, keyO_eq, keyO_eq] at z
      injection z with z1 z2
      exact hr z1.symm
    rw [decide_eq_false this]
    exact it_t (fun z => hr (nI_inj (by omega) (by omega) z)) (key0 0)
end OPS
