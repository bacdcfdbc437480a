/-! CONSTRUCTING: the model -/
section OPS
variable {x : Nat} {E E' : List TE} {R R' : List TR} {F F' : List TF} {W W' : List TW} {O O' : List TO} {T T' : List TL} {S S' : TS} {jW jO jW' jO' n : Nat} {M M' M1 : Mem}
theorem m_use {m r p : Nat} {q : TR} {t : TP} {v : Int64} {l : Int32} (hM : MI m E R F W O T S M) (aw : AW E R F W O T S jW jO) (hq : R[r]? = some q) (ht : q.1[p]? = some t) (hnow : aJ M (m + 29) p = v) (hv : valOK E F W O O.length t.2.1 t.2.2.1 v) : ∃ M1, CU m M M1 ∧ MI m (stP E S t v).2.1 R F W O T (stP E S t v).2.2 M1 ∧ AtH m M M1 ∧ ∀ {rr : Option Rt}, (if (stP E S t v).1 = 0 then rn PP 199 9 [some (pR (some m)), some (pI (nI r)), some (pI l), none, some (pI (nI p + 1)), none, none, none] [] M1 else rd (some m) 12 M1 fun a20 => clI (ex 198 6 [pR (some a20), pI (stP E S t v).1, pI (nI r), pI (nI p), pI (-1), pI l] M1) fun r21 M19 => some (some (pI r21), M19)) = rr → rn PP 199 9 [some (pR (some m)), some (pI (nI r)), some (pI l), none, some (pI (nI p)), none, none, none] [] M = rr := by
  obtain ⟨mB, mE, mR, -, -, mO, -, -⟩ := id hM
  have hr : r < R.length := (List.getElem?_eq_some_iff.mp hq).1
  have hr6 := mR.2.1
  have hE4 := mE.2.1
  have hO164 := mO.2.1
  obtain ⟨⟨z1, z2, z3⟩, -⟩ := mR.2.2.1 r q hq
  have hp : p < q.1.length := (List.getElem?_eq_some_iff.mp ht).1
  obtain ⟨w1, w2, w3, w4⟩ := z3 p t ht
  obtain ⟨hs, -⟩ := (aw.1 r q hq).1 p t ht
  have no : ¬ ((t.2.1 = 8 ∧ v ≠ -1) ∨ (t.2.1 = 9 ∧ v ≠ 0)) → stP E S t v = (0, E, S) := fun z => by unfold stP; rw [if_neg z]
  have ye : ((t.2.1 = 8 ∧ v ≠ -1) ∨ (t.2.1 = 9 ∧ v ≠ 0)) → ∃ M1, ex 187 2 [pR (some m), pI (10 + aI M (m + 8) (6 * r + p))] M = some (some (pI (stP E S t v).1), M1) ∧ CU m M M1 ∧ MI m (stP E S t v).2.1 R F W O T (stP E S t v).2.2 M1 ∧ AtH m M M1 := fun z => by
    have e1 : stP E S t v = stE E S t.2.2.1.toNatClampNeg := by unfold stP; rw [if_pos z]
    have s89 : t.2.1 = 8 ∨ t.2.1 = 9 := by
      rcases z with z | z
      · exact Or.inl z.1
      · exact Or.inr z.1
    obtain ⟨e, he, hf⟩ := hs.2.2.1 s89
    obtain ⟨qe, hqe⟩ : ∃ q, E[e]? = some q := ⟨_, List.getElem?_eq_getElem he⟩
    rw [e1, w3, hf, nI_clamp (by omega), show (10 : Int32) + nI e = nI (10 + e) from nI_add 10 e]
    exact m_startE2 hM hqe aw.2.2.2.2.2.1
  have i6 : (6 : Int32) * nI r + nI p = nI (6 * r + p) := m6 r p
  have hge : ¬ aI M (m + 5) r ≤ nI p := by rw [z2]; exact nI_ge (by omega) (by omega)
  by_cases h8 : t.2.1 = 8
  · have a8 : aI M (m + 7) (6 * r + p) = 8 := w2.trans h8
    rcases hv.2.1 h8 with hm | ⟨e, qe, c, y1, y2, y3, y4⟩
    · rw [no (by rintro (⟨-, z⟩ | ⟨z, -⟩); exact z hm; rw [h8] at z; exact absurd z (by decide))]
      refine ⟨M, CU.rf, hM, AtH.rf, fun {rr} hr' => ?_⟩
      rw [tX12_made_9]
      refine rd_i rfl mB.k (ix_m (n := r) mB.a5 rfl (by omega) (by omega) (it_f hge (rd_i rfl mB.k (ix_m (n := 6 * r + p) mB.a7 i6 (by omega) (by omega) (it_f (not_not_intro a8) (rd_i rfl mB.k (ix_m (n := p) mB.a29 rfl (by omega) (by omega) (it_f ?_ (rd_i rfl mB.k (ix_m (n := 6 * r + p) mB.a7 i6 (by omega) (by omega) (it_t (by rw [a8]; decide) (it_t rfl (it_t rfl ((if_pos (show (0 : Int32) = 0 from rfl)).symm.trans hr'))))))))))))))
      rw [hnow, hm]
      decide
    · have hc8 := (mE.2.2.1 e qe y2).1
      have hm : v ≠ -1 := by rw [y4]; exact lN_ne (by omega)
      obtain ⟨M1, e1, e2, e3, e4⟩ := ye (Or.inl ⟨h8, hm⟩)
      refine ⟨M1, e2, e3, e4, fun {rr} hr' => ?_⟩
      rw [tX12_made_9]
      refine rd_i rfl mB.k (ix_m (n := r) mB.a5 rfl (by omega) (by omega) (it_f hge (rd_i rfl mB.k (ix_m (n := 6 * r + p) mB.a7 i6 (by omega) (by omega) (it_f (not_not_intro a8) (rd_i rfl mB.k (ix_m (n := p) mB.a29 rfl (by omega) (by omega) (it_t ?_ (it_f (by decide) (rd_i rfl mB.k (ix_m (n := 6 * r + p) mB.a8 i6 (by omega) (by omega) (rd_i rfl mB.k (clI_i e1 hr')))))))))))))
      rw [hnow, y4, cmp_ge0, I64_le, lN_toInt (by omega), show (0 : Int64).toInt = 0 from rfl]
      omega
  · have n8 : ¬ aI M (m + 7) (6 * r + p) = 8 := fun z => h8 (w2.symm.trans z)
    by_cases h9 : t.2.1 = 9
    · have a9 : aI M (m + 7) (6 * r + p) = 9 := w2.trans h9
      by_cases hm : v = 0
      · rw [no (by rintro (⟨z, -⟩ | ⟨-, z⟩); exact h8 z; exact z hm)]
        refine ⟨M, CU.rf, hM, AtH.rf, fun {rr} hr' => ?_⟩
        rw [tX12_made_9]
        exact rd_i rfl mB.k (ix_m (n := r) mB.a5 rfl (by omega) (by omega) (it_f hge (rd_i rfl mB.k (ix_m (n := 6 * r + p) mB.a7 i6 (by omega) (by omega) (it_t n8 (rd_i rfl mB.k (ix_m (n := 6 * r + p) mB.a7 i6 (by omega) (by omega) (it_f (not_not_intro a9) (rd_i rfl mB.k (ix_m (n := p) mB.a29 rfl (by omega) (by omega) (it_t (by rw [hnow]; exact cmp_eq0.mpr hm) (it_t rfl (it_t rfl ((if_pos (show (0 : Int32) = 0 from rfl)).symm.trans hr'))))))))))))))
      · obtain ⟨M1, e1, e2, e3, e4⟩ := ye (Or.inr ⟨h9, hm⟩)
        refine ⟨M1, e2, e3, e4, fun {rr} hr' => ?_⟩
        rw [tX12_made_9]
        exact rd_i rfl mB.k (ix_m (n := r) mB.a5 rfl (by omega) (by omega) (it_f hge (rd_i rfl mB.k (ix_m (n := 6 * r + p) mB.a7 i6 (by omega) (by omega) (it_t n8 (rd_i rfl mB.k (ix_m (n := 6 * r + p) mB.a7 i6 (by omega) (by omega) (it_f (not_not_intro a9) (rd_i rfl mB.k (ix_m (n := p) mB.a29 rfl (by omega) (by omega) (it_f (fun z => hm (by rw [hnow] at z; exact cmp_eq0.mp z)) (it_f (by decide) (rd_i rfl mB.k (ix_m (n := 6 * r + p) mB.a8 i6 (by omega) (by omega) (rd_i rfl mB.k (clI_i e1 hr'))))))))))))))))
    · have n9 : ¬ aI M (m + 7) (6 * r + p) = 9 := fun z => h9 (w2.symm.trans z)
      rw [no (by rintro (⟨z, -⟩ | ⟨z, -⟩); exact h8 z; exact h9 z)]
      refine ⟨M, CU.rf, hM, AtH.rf, fun {rr} hr' => ?_⟩
      rw [tX12_made_9]
      exact rd_i rfl mB.k (ix_m (n := r) mB.a5 rfl (by omega) (by omega) (it_f hge (rd_i rfl mB.k (ix_m (n := 6 * r + p) mB.a7 i6 (by omega) (by omega) (it_t n8 (rd_i rfl mB.k (ix_m (n := 6 * r + p) mB.a7 i6 (by omega) (by omega) (it_t n9 (it_t rfl (it_t rfl ((if_pos (show (0 : Int32) = 0 from rfl)).symm.trans hr')))))))))))
theorem m_con9 {m r : Nat} {q : TR} {vs : List Int64} {l : Int32} (hq : R[r]? = some q) (hvl : vs.length = q.1.length) : ∀ (n p : Nat) (E : List TE) (S : TS) (M : Mem), n + p = q.1.length → MI m E R F W O T S M → AW E R F W O T S jW jO → (∀ (i : Nat) (v : Int64), vs[i]? = some v → aJ M (m + 29) i = v) → (∀ (p : Nat) (t : TP) (v : Int64), q.1[p]? = some t → vs[p]? = some v → valOK E F W O O.length t.2.1 t.2.2.1 v) → ∃ M', CU m M M' ∧ MI m (stPs (q.1.drop p) (vs.drop p) p E S).2.1 R F W O T (stPs (q.1.drop p) (vs.drop p) p E S).2.2 M' ∧ AtH m M M' ∧ ((stPs (q.1.drop p) (vs.drop p) p E S).1 = none → rn PP 199 9 [some (pR (some m)), some (pI (nI r)), some (pI l), none, some (pI (nI p)), none, none, none] [] M = rn PP 199 135 [some (pR (some m)), some (pI (nI r)), some (pI l), none, some (pI 0), none, none, none] [] M') ∧ (∀ (c : Int32) (p' : Nat), (stPs (q.1.drop p) (vs.drop p) p E S).1 = some (c, p') → rn PP 199 9 [some (pR (some m)), some (pI (nI r)), some (pI l), none, some (pI (nI p)), none, none, none] [] M = clI (ex 198 6 [pR (some m), pI c, pI (nI r), pI (nI p'), pI (-1), pI l] M') fun r16 M14 => some (some (pI r16), M14)) := by
  intro n
  induction n with
  | zero =>
    intro p E S M hp hM aw hnow hval
    obtain ⟨mB, mE, mR, -, -, -, -, -⟩ := id hM
    have hr : r < R.length := (List.getElem?_eq_some_iff.mp hq).1
    have hr6 := mR.2.1
    obtain ⟨⟨z1, z2, z3⟩, -⟩ := mR.2.2.1 r q hq
    rw [List.drop_of_length_le (show q.1.length ≤ p by omega), stPs_n]
    refine ⟨M, CU.rf, hM, AtH.rf, fun _ => ?_, fun c p' z => nomatch z⟩
    rw [tX12_made_9]
    exact rd_i rfl mB.k (ix_m (n := r) mB.a5 rfl (by omega) (by omega) (it_t (by rw [z2]; exact nI_le (by omega) (by omega)) rfl))
  | succ n ih =>
    intro p E S M hp hM aw hnow hval
    obtain ⟨t, ht, hdt⟩ := drop_get (l := q.1) (i := p) (by omega)
    obtain ⟨v, hv', hdv⟩ := drop_get (l := vs) (i := p) (by omega)
    obtain ⟨M1, cu1, hM1, kp1, run⟩ := m_use (l := l) hM aw hq ht (hnow p v hv') (hval p t v ht hv')
    obtain ⟨aw1, sh1⟩ := aw_stP (t := t) (v := v) aw
    rw [hdt, hdv, stPs_c]
    by_cases h0 : (stP E S t v).1 = 0
    · rw [if_pos h0]
      obtain ⟨M2, cu2, hM2, kp2, n2, s2⟩ := ih (p + 1) _ _ M1 (by omega) hM1 aw1 (fun i v hi => by rw [kp1.2.2.2]; exact hnow i v hi) (fun p t v h1 h2 => (hval p t v h1 h2).sh sh1)
      refine ⟨M2, cu1.tr cu2, hM2, kp1.tr kp2, fun z => run (it_t h0 ?_), fun c p' z => run (it_t h0 ?_)⟩
      · rw [nI_1]; exact n2 z
      · rw [nI_1]; exact s2 c p' z
    · rw [if_neg h0]
      refine ⟨M1, cu1, hM1, kp1, (fun z => nomatch z), fun c p' z => run (it_f h0 (rd_i rfl hM1.1.k ?_))⟩
      have z : some ((stP E S t v).1, p) = some (c, p') := z
      injection z with z
      injection z with z1 z2
      rw [z1, z2]
theorem m_con135 {m r : Nat} {q : TR} {vs : List Int64} {l : Int32} (hM : MI m E R F W O T S M) (aw : AW E R F W O T S jW jO) (hq : R[r]? = some q) (hvl : vs.length = q.1.length) (hnow : ∀ (i : Nat) (v : Int64), vs[i]? = some v → aJ M (m + 29) i = v) (hO : O.length < 164) (hval : ∀ (p : Nat) (t : TP) (v : Int64), q.1[p]? = some t → vs[p]? = some v → valOK E F W O O.length t.2.1 t.2.2.1 v) : ∀ (n k : Nat), n + k = q.2.1.length → (chs E W O q.1 vs (q.2.1.drop k) k = none → rn PP 199 135 [some (pR (some m)), some (pI (nI r)), some (pI l), none, some (pI (nI k)), none, none, none] [] M = rn PP 199 215 [some (pR (some m)), some (pI (nI r)), none, none, some (pI 0), none, none, none] [] (wI (wI M (m + 25) O.length (nI r)) (m + 27) O.length (-1))) ∧ (∀ (c : Int32) (p k' : Nat), chs E W O q.1 vs (q.2.1.drop k) k = some (c, p, k') → rn PP 199 135 [some (pR (some m)), some (pI (nI r)), some (pI l), none, some (pI (nI k)), none, none, none] [] M = clI (ex 198 6 [pR (some m), pI c, pI (nI r), pI (nI p), pI (nI k'), pI l] M) fun r25 M23 => some (some (pI r25), M23)) := by
  obtain ⟨mB, mE, mR, -, -, mO, -, -⟩ := id hM
  have hr : r < R.length := (List.getElem?_eq_some_iff.mp hq).1
  have hr6 := mR.2.1
  obtain ⟨⟨z1, z2, z3⟩, ⟨y1, y2, y3⟩, -⟩ := mR.2.2.1 r q hq
  intro n
  induction n with
  | zero =>
    intro k hk
    rw [List.drop_of_length_le (show q.2.1.length ≤ k by omega)]
    refine ⟨fun _ => ?_, fun c p k' z => nomatch z⟩
    rw [tX12_made_135]
    exact rd_i rfl mB.k (ix_m (n := r) mB.a10 rfl (by omega) (by omega) (it_t (by rw [y2]; exact nI_le (by omega) (by omega)) (rd_i rfl mB.k (rd_i rfl mB.k (ix_m (n := O.length) mB.a25 mO.1 (by omega) (by omega) (bd_i (rd_i rfl mB.k (rd_i rfl mB.k (ix_m (n := O.length) mB.wI.a27 mO.1 (by omega) (by omega) (bd_i rfl)))))))))) 
  | succ n ih =>
    intro k hk
    obtain ⟨c, hcc, hdc⟩ := drop_get (l := q.2.1) (i := k) (by omega)
    obtain ⟨t, ht, hck⟩ := (aw.1 r q hq).2 k c hcc
    have htl : c.1 < q.1.length := (List.getElem?_eq_some_iff.mp ht).1
    obtain ⟨v, hv⟩ : ∃ v, vs[c.1]? = some v := ⟨_, List.getElem?_eq_getElem (by omega)⟩
    have e200 := m_checked hM hq hcc ht hck (hval c.1 t v ht hv) (hnow c.1 v hv) (aw.2.2.2.1.r6 hr6)
    have run : ∀ {rr : Option Rt}, (if chV E W O c t v = 0 then rn PP 199 135 [some (pR (some m)), some (pI (nI r)), some (pI l), none, some (pI (nI k + 1)), none, none, none] [] M else rd (some m) 12 M fun a17 => ix 20 30 (gR M 780 a17) (4 * nI r + nI k) M fun a18 j19 => rd (some m) 12 M fun a21 => clI (ex 198 6 [pR (some a21), pI (chV E W O c t v), pI (nI r), pI (aI M a18 j19), pI (nI k), pI l] M) fun r22 M20 => some (some (pI r22), M20)) = rr → rn PP 199 135 [some (pR (some m)), some (pI (nI r)), some (pI l), none, some (pI (nI k)), none, none, none] [] M = rr := fun {rr} hr' => by
      rw [tX12_made_135]
      exact rd_i rfl mB.k (ix_m (n := r) mB.a10 rfl (by omega) (by omega) (it_f (by rw [y2]; exact nI_ge (by omega) (by omega)) (rd_i rfl mB.k (clI_i (v := chV E W O c t v) (M1 := M) (by rw [m4]; exact e200) hr'))))
    rw [hdc, chs_c ht hv]
    by_cases h0 : chV E W O c t v = 0
    · rw [if_pos h0]
      obtain ⟨y1, y2⟩ := ih (k + 1) (by omega)
      refine ⟨fun z => run (it_t h0 ?_), fun c' p k' z => run (it_t h0 ?_)⟩
      · rw [nI_1]; exact y1 z
      · rw [nI_1]; exact y2 c' p k' z
    · rw [if_neg h0]
      refine ⟨(fun z => nomatch z), fun c' p k' z => run (it_f h0 (rd_i rfl mB.k (ix_m (n := 4 * r + k) mB.a11 (m4 r k) (by omega) (by omega) (rd_i rfl mB.k ?_))))⟩
      injection z with z
      injection z with z1 z2
      injection z2 with z2 z3
      rw [(y3 k c hcc).1, z1, z2, z3]
theorem m_con215 {m r o np : Nat} (ho : o < 164) (hr : r < 6) (hnp : np ≤ 6) : ∀ (n i : Nat) (M : Mem), n + i = 6 → MB m M → gI M 791 m = nI o → aI M (m + 5) r = nI np → ∃ g, rn PP 199 215 [some (pR (some m)), some (pI (nI r)), none, none, some (pI (nI i)), none, none, none] [] M = some (some (pI (nI o)), sI (uJ M (m + 26) g) 791 m (nI o + 1)) ∧ (∀ j, i ≤ j → j < np → g (6 * o + j) = aJ M (m + 29) j) ∧ (∀ j, j < 6 * o + i → g j = aJ M (m + 26) j) := by
  intro n
  induction n with
  | zero =>
    intro i M hi mB h791 h5
    refine ⟨aJ M (m + 26), ?_, fun j h1 h2 => by omega, fun j _ => rfl⟩
    rw [tX12_made_215, uJ_self]
    refine it_t (nI_le (a := 6) (by omega) (by omega)) (rd_i rfl mB.k (rd_i rfl mB.k (bd_i ?_)))
    rw [h791]
    refine rd_i rfl mB.k ?_
    rw [gI_sI, up2_at, nI_1, nI_pred]
  | succ n ih =>
    intro i M hi mB h791 h5
    have i6 : (6 : Int32) * gI M 791 m + nI i = nI (6 * o + i) := by rw [h791]; exact m6 o i
    have key : ∀ v : Int64, ∃ g, rn PP 199 215 [some (pR (some m)), some (pI (nI r)), none, none, some (pI (nI i + 1)), none, none, none] [] (wJ M (m + 26) (6 * o + i) v) = some (some (pI (nI o)), sI (uJ M (m + 26) g) 791 m (nI o + 1)) ∧ (∀ j, i + 1 ≤ j → j < np → g (6 * o + j) = aJ M (m + 29) j) ∧ (∀ j, j < 6 * o + i → g j = aJ M (m + 26) j) ∧ g (6 * o + i) = v := fun v => by
      obtain ⟨g, e1, e2, e3⟩ := ih (i + 1) (wJ M (m + 26) (6 * o + i) v) (by omega) mB.wJ (by rw [gI_wJ]; exact h791) (by rw [aI_wJ]; exact h5)
      have ew : aJ (wJ M (m + 26) (6 * o + i) v) (m + 26) = up1 (aJ M (m + 26)) (6 * o + i) v := by rw [aJ_wJ, up1_at]
      refine ⟨g, ?_, fun j h1 h2 => ?_, fun j hj => ?_, ?_⟩
      · rw [nI_1, e1]
        show some (some (pI (nI o)), sI (uJ (uJ M (m + 26) (up1 (aJ M (m + 26)) (6 * o + i) v)) (m + 26) g) 791 m (nI o + 1)) = _
        rw [uJ_uJ]
      · rw [e2 j h1 h2, aJ_wJ, up1_no (by omega)]
      · rw [e3 j (by omega), ew, up1_no (by omega)]
      · rw [e3 (6 * o + i) (by omega), ew, up1_at]
    by_cases hc : i < np
    · obtain ⟨g, e1, e2, e3, e4⟩ := key (aJ M (m + 29) i)
      refine ⟨g, ?_, fun j h1 h2 => ?_, e3⟩
      · rw [tX12_made_215]
        exact it_f (nI_ge (b := 6) (by omega) (by omega)) (rd_i rfl mB.k (rd_i rfl mB.k (rd_i rfl mB.k (ix_m (n := r) mB.a5 rfl (by omega) (by omega) (it_f (by rw [h5]; exact nI_ge (by omega) (by omega)) (rd_i rfl mB.k (ix_m (n := i) mB.a29 rfl (by omega) (by omega) (ix_m (n := 6 * o + i) mB.a26 i6 (by omega) (by omega) (bd_i e1)))))))))
      · by_cases c : j = i
        · rw [c]; exact e4
        · exact e2 j (by omega) h2
    · obtain ⟨g, e1, e2, e3, e4⟩ := key 0
      refine ⟨g, ?_, fun j h1 h2 => by omega, e3⟩
      rw [tX12_made_215]
      exact it_f (nI_ge (b := 6) (by omega) (by omega)) (rd_i rfl mB.k (rd_i rfl mB.k (rd_i rfl mB.k (ix_m (n := r) mB.a5 rfl (by omega) (by omega) (it_t (by rw [h5]; exact nI_le (by omega) (by omega)) (ix_m (n := 6 * o + i) mB.a26 i6 (by omega) (by omega) (bd_i e1)))))))
/-- the model's objects -/
def UO (m : Nat) (M M' : Mem) : Prop := (kd M' = kd M ∧ ln M' = ln M ∧ gR M' = gR M) ∧ (∀ k, k ≠ 791 → gI M' k m = gI M k m) ∧ (∀ i, i ≠ 25 → i ≠ 27 → aI M' (m + i) = aI M (m + i)) ∧ (∀ i, i ≠ 26 → aJ M' (m + i) = aJ M (m + i))
theorem MI.uo {m : Nat} {M' : Mem} (h : MI m E R F W O T S M) (u : UO m M M') (hO : MO m M' O') : MI m E R F W O' T S M' := by
  obtain ⟨h1, h2, h3, h4, h5, h6, h7, h8⟩ := h
  obtain ⟨⟨u1, u2, u3⟩, g, a, b⟩ := u
  exact ⟨⟨by rw [u1]; exact h1.1, fun q hq => by rw [u1, u2, u3]; exact h1.2 q hq⟩, h2.cg (g _ (by omega)) (a _ (by omega) (by omega)) (a _ (by omega) (by omega)) (a _ (by omega) (by omega)) (a _ (by omega) (by omega)) (a _ (by omega) (by omega)) (b _ (by omega)), h3.cg (g _ (by omega)) (a _ (by omega) (by omega)) (a _ (by omega) (by omega)) (a _ (by omega) (by omega)) (a _ (by omega) (by omega)) (a _ (by omega) (by omega)) (a _ (by omega) (by omega)) (a _ (by omega) (by omega)) (b _ (by omega)) (b _ (by omega)) (b _ (by omega)) (b _ (by omega)), h4.cg (g _ (by omega)) (a _ (by omega) (by omega)) (a _ (by omega) (by omega)), h5.cg (g _ (by omega)) (a _ (by omega) (by omega)) (a _ (by omega) (by omega)) (b _ (by omega)), hO, h7.cg (g _ (by omega)) (a _ (by omega) (by omega)) (a _ (by omega) (by omega)) (a _ (by omega) (by omega)) (a _ (by omega) (by omega)) (a _ (by omega) (by omega)) (a _ (by omega) (by omega)) (a _ (by omega) (by omega)) (a _ (by omega) (by omega)) (b _ (by omega)) (b _ (by omega)) (b _ (by omega)), h8.cg (g _ (by omega)) (g _ (by omega)) (g _ (by omega)) (g _ (by omega)) (g _ (by omega)) (g _ (by omega)) (g _ (by omega)) (g _ (by omega)) (g _ (by omega)) (g _ (by omega)) (a _ (by omega) (by omega)) (b _ (by omega))⟩
theorem MO_new {m r : Nat} {vs : List Int64} {tw : Int32} {g : Nat → Int64} (mO : MO m M O) (h164 : O.length < 164) (hvs : vs.length ≤ 6) (e791 : gI M' 791 m = nI (O.length + 1)) (e25 : aI M' (m + 25) = up1 (aI M (m + 25)) O.length (nI r)) (e27 : aI M' (m + 27) = up1 (aI M (m + 27)) O.length (-1)) (e26 : aJ M' (m + 26) = g) (hg0 : ∀ j, j < 6 * O.length → g j = aJ M (m + 26) j) (hg : ∀ (j : Nat) (v : Int64), vs[j]? = some v → g (6 * O.length + j) = v) : MO m M' (O ++ [(r, vs, -1, tw)]) := by
  obtain ⟨y1, y2, y3⟩ := mO
  refine ⟨by rw [e791, List.length_append]; rfl, by rw [List.length_append]; simp only [List.length_cons, List.length_nil]; omega, fun o q hq => ?_⟩
  rw [e25, e27, e26]
  by_cases c : o < O.length
  · rw [List.getElem?_append_left c] at hq
    obtain ⟨z1, z2, z3, z4⟩ := y3 o q hq
    refine ⟨z1, by rw [up1_no (by omega)]; exact z2, by rw [up1_no (by omega)]; exact z3, fun j v hj => ?_⟩
    have hjl : j < q.2.1.length := (List.getElem?_eq_some_iff.mp hj).1
    rw [hg0 _ (by omega)]
    exact z4 j v hj
  · rw [List.getElem?_append_right (by omega)] at hq
    have : o - O.length < 1 := (List.getElem?_eq_some_iff.mp hq).1
    rw [show o - O.length = 0 by omega] at hq
    cases hq
    rw [show o = O.length by omega, up1_at, up1_at]
    exact ⟨hvs, rfl, rfl, hg⟩
theorem m_made {m r : Nat} {q : TR} {vs : List Int64} {l : Int32} (hM : MI m E R F W O T S M) (aw : AW E R F W O T S jW jO) (hq : R[r]? = some q) (hvl : vs.length = q.1.length) (hnow : ∀ (i : Nat) (v : Int64), vs[i]? = some v → aJ M (m + 29) i = v) (hO : O.length < 164) (hval : ∀ (p : Nat) (t : TP) (v : Int64), q.1[p]? = some t → vs[p]? = some v → valOK E F W O O.length t.2.1 t.2.2.1 v) : (∀ c, (con E R W O S r vs l).1 = some c → ∃ M', ex 199 8 [pR (some m), pI (nI r), pI l] M = some (some (pI (-10 - c)), M') ∧ CU m M M' ∧ MI m (con E R W O S r vs l).2.1 (con E R W O S r vs l).2.2.1 F W O T (con E R W O S r vs l).2.2.2 M' ∧ AtH m M M') ∧ ((con E R W O S r vs l).1 = none → ∃ M', ex 199 8 [pR (some m), pI (nI r), pI l] M = some (some (pI (nI O.length)), M') ∧ CU m M M' ∧ (∀ tw, MI m (con E R W O S r vs l).2.1 (con E R W O S r vs l).2.2.1 F W (O ++ [(r, vs, -1, tw)]) T (con E R W O S r vs l).2.2.2 M') ∧ AtH m M M') := by
  obtain ⟨mB, mE, mR, -, -, mO, -, -⟩ := id hM
  have hr : r < R.length := (List.getElem?_eq_some_iff.mp hq).1
  have hr6 := mR.2.1
  have hq6 := (mR.2.2.1 r q hq).1.1
  obtain ⟨M1, e187, cu1, hM1, kp1⟩ := m_startR2 hM hq aw.2.2.2.2.2.1
  obtain ⟨a1, a2⟩ := aw_stR aw r
  obtain ⟨q', hq', hqp, hqc⟩ := a2.2 r q hq
  have hnow1 : ∀ (i : Nat) (v : Int64), vs[i]? = some v → aJ M1 (m + 29) i = v := fun i v hi => by rw [kp1.2.2.2]; exact hnow i v hi
  obtain ⟨M2, cu2, hM2, kp2, n2, s2⟩ := m_con9 (l := l) (vs := vs) hq' (by rw [hqp]; exact hvl) q'.1.length 0 E _ M1 (by omega) hM1 a1 hnow1 (fun p t v ht hv => hval p t v (by rw [← hqp]; exact ht) hv)
  rw [List.drop_zero, List.drop_zero, hqp] at hM2 n2 s2
  obtain ⟨b1, b2⟩ := aw_stPs q.1 vs 0 E _ a1
  have hnow2 : ∀ (i : Nat) (v : Int64), vs[i]? = some v → aJ M2 (m + 29) i = v := fun i v hi => by rw [kp2.2.2.2]; exact hnow1 i v hi
  have run : ∀ {rr : Option Rt}, rn PP 199 9 [some (pR (some m)), some (pI (nI r)), some (pI l), none, some (pI 0), none, none, none] [] M1 = rr → ex 199 8 [pR (some m), pI (nI r), pI l] M = rr := fun {rr} hr' => by
    rw [tX12_made]
    exact rd_i rfl mB.k (clI_i e187 hr')
  have k135 := m_con135 (l := l) (vs := vs) hM2 b1 hq' (by rw [hqp]; exact hvl) hnow2 hO (fun p t v ht hv => (hval p t v (by rw [← hqp]; exact ht) hv).sh b2) q'.2.1.length 0 (by omega)
  rw [List.drop_zero, hqp, hqc] at k135
  obtain ⟨c1, c2⟩ := con_eq (E := E) (W := W) (O := O) (S := S) (vs := vs) (l := l) hq
  have fail : ∀ (c p k : Int32), (∀ {rr : Option Rt}, (clI (ex 198 6 [pR (some m), pI c, pI (nI r), pI p, pI k, pI l] M2) fun r16 M14 => some (some (pI r16), M14)) = rr → ex 199 8 [pR (some m), pI (nI r), pI l] M = rr) → con E R W O S r vs l = (some c, (stPs q.1 vs 0 E (stR R S r).2).2.1, (stR R S r).1, cau (stPs q.1 vs 0 E (stR R S r).2).2.2 c (nI r) p k l) → ∀ c, (con E R W O S r vs l).1 = some c → ∃ M', ex 199 8 [pR (some m), pI (nI r), pI l] M = some (some (pI (-10 - c)), M') ∧ CU m M M' ∧ MI m (con E R W O S r vs l).2.1 (con E R W O S r vs l).2.2.1 F W O T (con E R W O S r vs l).2.2.2 M' ∧ AtH m M M' := fun c p k hr' he c' hc' => by
    obtain ⟨M3, e198, cu3, hM3, kp3⟩ := m_caused (c := c) (r := nI r) (p := p) (k := k) (l := l) hM2
    rw [he] at hc' ⊢
    have hc' : some c = some c' := hc'
    injection hc' with hc'
    subst hc'
    exact ⟨M3, hr' (clI_i e198 rfl), (cu1.tr cu2).tr cu3, hM3, (kp1.tr kp2).tr kp3⟩
  rcases con3 (E := E) (W := W) (O := O) (S := S) (vs := vs) (l := l) hq with ⟨c, p, h⟩ | ⟨h, c, p, k, h2⟩ | ⟨h, h2⟩
  · refine ⟨fail c (nI p) (-1) (fun {rr} hr => run ((s2 c p h).trans hr)) (c1 c p h), fun z => ?_⟩
    rw [c1 c p h] at z
    exact nomatch z
  · refine ⟨fail c (nI p) (nI k) (fun {rr} hr => run ((n2 h).trans ((k135.2 c p k h2).trans hr))) ((c2 h).1 c p k h2), fun z => ?_⟩
    rw [(c2 h).1 c p k h2] at z
    exact nomatch z
  · rw [(c2 h).2 h2]
    refine ⟨(fun c z => nomatch z), fun _ => ?_⟩
    have mB2 := hM2.1
    have mR2 := hM2.2.2.1
    have mO2 := hM2.2.2.2.2.2.1
    obtain ⟨g, e1, e2, e3⟩ := m_con215 (m := m) (r := r) (o := O.length) (np := q.1.length) hO (by omega) hq6 6 0 (wI (wI M2 (m + 25) O.length (nI r)) (m + 27) O.length (-1)) (by omega) mB2.wI.wI (by rw [gI_wI, gI_wI]; exact mO2.1) (by rw [aI_wI, up1_no (by omega), aI_wI, up1_no (by omega)]; rw [← hqp]; exact (mR2.2.2.1 r q' hq').1.2.1)
    refine ⟨_, run ((n2 h).trans ((k135.1 h2).trans e1)), ((cu1.tr cu2).tr ((((CU.rf.wI (by omega)).wI (by omega)).bAJ (by omega)).bI (by omega))), fun tw => ?_, (kp1.tr kp2).tr ?_⟩
    · refine hM2.uo ⟨⟨rfl, rfl, rfl⟩, fun k hk => ?_, fun i h25 h27 => ?_, fun i h26 => ?_⟩ (MO_new (g := g) mO2 hO (by omega) ?_ ?_ ?_ ?_ (fun j hj => ?_) (fun j v hj => ?_))
      · rw [gI_sI, up2_ne hk, gI_uJ, gI_wI, gI_wI]
      · rw [aI_sI, aI_uJ, aI_wI, up1_no (by omega), aI_wI, up1_no (by omega)]
      · rw [aJ_sI, aJ_uJ, up1_no (by omega), aJ_wI, aJ_wI]
      · rw [gI_sI, up2_at, nI_1]
      · rw [aI_sI, aI_uJ, aI_wI, up1_no (by omega), aI_wI, up1_at]
      · rw [aI_sI, aI_uJ, aI_wI, up1_at, aI_wI, up1_no (by omega)]
      · rw [aJ_sI, aJ_uJ, up1_at]
      · rw [e3 j (by omega), aJ_wI, aJ_wI]
      · have hjl : j < vs.length := (List.getElem?_eq_some_iff.mp hj).1
        rw [e2 j (by omega) (by omega), aJ_wI, aJ_wI]
        exact hnow2 j v hj
    · have k1 : AtH m M2 (wI (wI M2 (m + 25) O.length (nI r)) (m + 27) O.length (-1)) := (AtH.rf.wI (by omega) (by omega)).wI (by omega) (by omega)
      refine AtH.bI (k1.tr ⟨?_, ?_, ?_, ?_⟩)
      · rw [aI_uJ]
      · rw [aI_uJ]
      · rw [aJ_uJ, up1_no (by omega)]
      · rw [aJ_uJ, up1_no (by omega)]
end OPS
