/-! LOADING: rows, the model -/
section OPS
variable {x : Nat} {E E' : List TE} {R R' : List TR} {F F' : List TF} {W W' : List TW} {O O' : List TO} {T T' : List TL} {S S' : TS} {jW jO jW' jO' n : Nat} {M M' M1 : Mem}
theorem ML.set41 {m l pk : Nat} {q : TL} {t : TQ} {v : Int32} (h : ML m M T) (hq : T[l]? = some q) (ht : q.2.2.1[pk]? = some t) : ML m (wI M (m + 41) (6 * l + pk) v) (T.set l (q_row q pk t v)) := by
  obtain ⟨y1, y2, y3⟩ := h
  have hl : l < T.length := (List.getElem?_eq_some_iff.mp hq).1
  have hpk : pk < q.2.2.1.length := (List.getElem?_eq_some_iff.mp ht).1
  have n41 : ∀ i, i ≠ 41 → aI (wI M (m + 41) (6 * l + pk) v) (m + i) = aI M (m + i) := fun i hi => by rw [aI_wI, up1_no (by omega)]
  refine ⟨by rw [gI_wI, List.length_set]; exact y1, by rw [List.length_set]; exact y2, fun l' r hr => ?_⟩
  rw [List.getElem?_set] at hr
  rw [n41 31 (by omega), n41 32 (by omega), n41 33 (by omega), n41 40 (by omega), n41 35 (by omega), n41 36 (by omega), n41 39 (by omega), aJ_wI, aI_wI, up1_at]
  by_cases c : l = l'
  · subst c
    rw [if_pos rfl, if_pos hl] at hr
    have hr : q_row q pk t v = r := Option.some.inj hr
    subst hr
    obtain ⟨z1, z2, z3, z4, z5, z6⟩ := y3 l q hq
    have el : (q_row q pk t v).2.2.1.length = q.2.2.1.length := by show (q.2.2.1.set pk (t_row t v)).length = _; rw [List.length_set]
    rw [el]
    refine ⟨z1, z2, z3, z4, z5, fun p u hu => ?_⟩
    have hu : (q.2.2.1.set pk (t_row t v))[p]? = some u := hu
    rw [List.getElem?_set] at hu
    by_cases d : pk = p
    · subst d
      rw [if_pos rfl, if_pos hpk] at hu
      have hu : t_row t v = u := Option.some.inj hu
      subst hu
      obtain ⟨p1, p2, p3, p4, p5, p6, p7, p8, p9⟩ := z6 pk t ht
      exact ⟨p1, p2, p3, p4, p5, p6, p7, p8, by rw [up1_at]; rfl⟩
    · rw [if_neg d] at hu
      rw [up1_no (by omega)]
      exact z6 p u hu
  · rw [if_neg c] at hr
    obtain ⟨z1, z2, z3, z4, z5, z6⟩ := y3 l' r hr
    have hq6 := (y3 l q hq).1
    refine ⟨z1, z2, z3, z4, z5, fun p u hu => ?_⟩
    have hp : p < r.2.2.1.length := (List.getElem?_eq_some_iff.mp hu).1
    rw [up1_no (by omega)]
    exact z6 p u hu
/-- the model's lines: only the rows as which they were loaded -/
theorem MI.set41 {m l pk : Nat} {q : TL} {t : TQ} {v : Int32} (h : MI m E R F W O T S M) (hq : T[l]? = some q) (ht : q.2.2.1[pk]? = some t) : MI m E R F W O (T.set l (q_row q pk t v)) S (wI M (m + 41) (6 * l + pk) v) := by
  obtain ⟨h1, h2, h3, h4, h5, h6, h7, h8⟩ := h
  have a : ∀ i, i ≠ 41 → aI (wI M (m + 41) (6 * l + pk) v) (m + i) = aI M (m + i) := fun i hi => by rw [aI_wI, up1_no (by omega)]
  exact ⟨h1.wI, h2.cg rfl (a _ (by omega)) (a _ (by omega)) (a _ (by omega)) (a _ (by omega)) (a _ (by omega)) rfl, h3.cg rfl (a _ (by omega)) (a _ (by omega)) (a _ (by omega)) (a _ (by omega)) (a _ (by omega)) (a _ (by omega)) (a _ (by omega)) rfl rfl rfl rfl, h4.cg rfl (a _ (by omega)) (a _ (by omega)), h5.cg rfl (a _ (by omega)) (a _ (by omega)) rfl, h6.cg rfl (a _ (by omega)) (a _ (by omega)) rfl, h7.set41 hq ht, h8.cg rfl rfl rfl rfl rfl rfl rfl rfl rfl rfl (a _ (by omega)) rfl⟩
theorem m_br53 {m to r k : Nat} (hto : to < 384) (hr : r < 440) (hk : k ≤ 16) : ∀ (n i : Nat) (M : Mem), n + i = k → MB m M → aI M (m + 39) to = nI k → aI M (m + 41) to = nI r → ∃ g, rn PP 221 53 [some (pR (some m)), some (pI (nI to)), some (pI (nI i))] [] M = some (none, sJ (uJ M (m + 24) g) 830 m ((nI r).toInt64)) ∧ (∀ j, i ≤ j → j < k → g (16 * r + j) = aJ M (m + 38) (16 * to + j)) ∧ (∀ j, j < 16 * r + i → g j = aJ M (m + 24) j) := by
  intro n
  induction n with
  | zero =>
    intro i M hi mB h39 h41
    refine ⟨aJ M (m + 24), ?_, fun j h1 h2 => by omega, fun j _ => rfl⟩
    rw [tX12_bringRow_53, uJ_self]
    refine rd_i rfl mB.k (ix_m (n := to) mB.a39 rfl (by omega) (by omega) (it_t (by rw [h39]; exact nI_le (by omega) (by omega)) (rd_i rfl mB.k (ix_m (n := to) mB.a41 rfl (by omega) (by omega) (rd_i rfl mB.k ?_)))))
    rw [h41]
    exact bd_i rfl
  | succ n ih =>
    intro i M hi mB h39 h41
    have ew : aJ (wJ M (m + 24) (16 * r + i) (aJ M (m + 38) (16 * to + i))) (m + 24) = up1 (aJ M (m + 24)) (16 * r + i) (aJ M (m + 38) (16 * to + i)) := by rw [aJ_wJ, up1_at]
    obtain ⟨g, e1, e2, e3⟩ := ih (i + 1) (wJ M (m + 24) (16 * r + i) (aJ M (m + 38) (16 * to + i))) (by omega) mB.wJ (by rw [aI_wJ]; exact h39) (by rw [aI_wJ]; exact h41)
    refine ⟨g, ?_, fun j h1 h2 => ?_, fun j hj => ?_⟩
    · rw [tX12_bringRow_53]
      refine rd_i rfl mB.k (ix_m (n := to) mB.a39 rfl (by omega) (by omega) (it_f (by rw [h39]; exact nI_ge (by omega) (by omega)) (rd_i rfl mB.k (rd_i rfl mB.k (ix_m (n := to) mB.a41 rfl (by omega) (by omega) (rd_i rfl mB.k (ix_m (n := 16 * to + i) mB.a38 (m16 to i) (by omega) (by omega) (ix_m (n := 16 * r + i) mB.a24 (by rw [h41]; exact m16 r i) (by omega) (by omega) (bd_i ?_)))))))))
      rw [nI_1, e1]
      show some (none, sJ (uJ (uJ M (m + 24) (up1 (aJ M (m + 24)) (16 * r + i) (aJ M (m + 38) (16 * to + i)))) (m + 24) g) 830 m ((nI r).toInt64)) = _
      rw [uJ_uJ]
    · by_cases c : j = i
      · subst c
        rw [e3 _ (by omega), ew, up1_at]
      · rw [e2 j (by omega) h2, aJ_wJ, up1_no (by omega)]
    · rw [e3 j (by omega), ew, up1_no (by omega)]
theorem m_rowNew {m l pk g : Nat} {q : TL} {t : TQ} (hM : MI m E R F W O T S M) (hq : T[l]? = some q) (ht : q.2.2.1[pk]? = some t) (h10 : t.2.1 = 10) (hv : ¬ t.2.2.2.1 < 0) (hr : t.2.2.2.2.2 = -1) (hg : g < 8) (hof : t.2.2.1 = nI g) (h440 : W.length < 440) : ∃ M', ex 221 3 [pR (some m), pI (nI (6 * l + pk))] M = some (none, M') ∧ CU m M M' ∧ MI m E R F (W ++ [(t.2.2.1, t.2.2.2.2.1)]) O (T.set l (q_row q pk t (nI W.length))) S M' ∧ gJ M' 830 m = lN W.length ∧ AtH m M M' := by
  have hl : l < T.length := (List.getElem?_eq_some_iff.mp hq).1
  have hpk : pk < q.2.2.1.length := (List.getElem?_eq_some_iff.mp ht).1
  have hM0 : MI m E R F W O T S (sJ M 830 m (-1)) := hM.uz UZ.g830
  obtain ⟨mB, -, -, -, mW, -, mL, -⟩ := id hM0
  have h64 := mL.2.1
  obtain ⟨z1, z2, z3, z4, z5, z6⟩ := mL.2.2 l q hq
  obtain ⟨p1, p2, p3, p4, p5, p6, p7, p8, p9⟩ := z6 pk t ht
  obtain ⟨M1, e189, cu1, hM1, uw⟩ := m_newRow2 (l := g) (k := t.2.2.2.2.1.length) hM0 hg p7 h440
  have hM2 : MI m E R F (W ++ [(nI g, List.replicate t.2.2.2.2.1.length 0)]) O (T.set l (q_row q pk t (nI W.length))) S (wI M1 (m + 41) (6 * l + pk) (nI W.length)) := hM1.set41 hq ht
  have r39 : aI (wI M1 (m + 41) (6 * l + pk) (nI W.length)) (m + 39) (6 * l + pk) = nI t.2.2.2.2.1.length := by rw [aI_wI, up1_no (by omega), uw.2.2.1 39 (by omega) (by omega)]; exact p6
  have r41 : aI (wI M1 (m + 41) (6 * l + pk) (nI W.length)) (m + 41) (6 * l + pk) = nI W.length := by rw [aI_wI, up1_at, up1_at]
  obtain ⟨gg, e53, s1, s2⟩ := m_br53 (m := m) (to := 6 * l + pk) (r := W.length) (k := t.2.2.2.2.1.length) (by omega) h440 p7 t.2.2.2.2.1.length 0 _ (by omega) hM2.1 r39 r41
  have s1' : ∀ j, j < t.2.2.2.2.1.length → gg (16 * W.length + j) = aJ M1 (m + 38) (16 * (6 * l + pk) + j) := fun j hj => by rw [s1 j (by omega) hj, aJ_wI]
  have s2' : ∀ j, j < 16 * W.length → gg j = aJ M1 (m + 24) j := fun j hj => by rw [s2 j (by omega), aJ_wI]
  generalize hM2e : wI M1 (m + 41) (6 * l + pk) (nI W.length) = M2 at hM2 r39 r41 e53
  have e24 : aJ M2 (m + 24) = aJ M1 (m + 24) := by rw [← hM2e, aJ_wI]
  have cu2 : CU m M1 M2 := by rw [← hM2e]; exact CU.rf.wI (by omega)
  have at2 : AtH m M1 M2 := by rw [← hM2e]; exact AtH.rf.wI (by omega) (by omega)
  have at1 : AtH m (sJ M 830 m (-1)) M1 := ⟨uw.2.2.1 42 (by omega) (by omega), uw.2.2.1 43 (by omega) (by omega), uw.2.2.2 45 (by omega), uw.2.2.2 29 (by omega)⟩
  have hM3 : MI m E R F (W ++ [(t.2.2.1, t.2.2.2.2.1)]) O (T.set l (q_row q pk t (nI W.length))) S (uJ M2 (m + 24) gg) := by
    refine hM2.uw ⟨⟨rfl, rfl, rfl⟩, fun _ _ => rfl, fun _ _ _ => rfl, fun j hj => by rw [aJ_uJ, up1_no (by omega)]⟩ ?_
    obtain ⟨w1, w2, w3⟩ := hM2.2.2.2.2.1
    have elen : (W ++ [(t.2.2.1, t.2.2.2.2.1)]).length = (W ++ [(nI g, List.replicate t.2.2.2.2.1.length (0 : Int64))]).length := by rw [List.length_append, List.length_append]; rfl
    refine ⟨by rw [gI_uJ, elen]; exact w1, by rw [elen]; exact w2, fun r w hw => ?_⟩
    rw [aI_uJ, aJ_uJ, up1_at]
    by_cases c : r < W.length
    · rw [List.getElem?_append_left c] at hw
      obtain ⟨u1, u2, u3, u4⟩ := w3 r w (by rw [List.getElem?_append_left c]; exact hw)
      refine ⟨u1, u2, u3, fun i v hi => ?_⟩
      have hil : i < w.2.length := (List.getElem?_eq_some_iff.mp hi).1
      rw [s2' _ (by omega), ← e24]
      exact u4 i v hi
    · rw [List.getElem?_append_right (by omega)] at hw
      have : r - W.length < 1 := (List.getElem?_eq_some_iff.mp hw).1
      rw [show r - W.length = 0 by omega] at hw
      have hw : (t.2.2.1, t.2.2.2.2.1) = w := Option.some.inj hw
      subst hw
      have hrl : r = W.length := by omega
      subst hrl
      obtain ⟨u1, u2, u3, u4⟩ := w3 W.length (nI g, List.replicate t.2.2.2.2.1.length 0) (by rw [List.getElem?_append_right (Nat.le_refl _), Nat.sub_self]; rfl)
      rw [List.length_replicate] at u3
      refine ⟨p7, by rw [u2, hof], u3, fun i v hi => ?_⟩
      have hi : t.2.2.2.2.1[i]? = some v := hi
      have hil : i < t.2.2.2.2.1.length := (List.getElem?_eq_some_iff.mp hi).1
      rw [s1' i hil, uw.2.2.2 38 (by omega)]
      exact p8 i v hi
  refine ⟨sJ (uJ M2 (m + 24) gg) 830 m ((nI W.length).toInt64), ?_, ((CU.rf.bJ (by omega)).tr cu1).tr (cu2.tr ((CU.rf.bAJ (by omega)).bJ (by omega))), hM3.uz UZ.g830, by rw [gJ_sJ, up2_at, nI_l (by omega)], (AtH.rf.bJ.tr at1).tr (at2.tr ?_)⟩
  · rw [tX12_bringRow]
    have e820 : ¬ aJ (sJ M 830 m (-1)) (m + 37) (6 * l + pk) < 0 := fun z => hv ((p5 (Or.inr h10)).mp z)
    refine rd_i rfl hM.1.k (bd_i (rd_i rfl mB.k (ix_m (n := 6 * l + pk) mB.a37 rfl (by omega) (by omega) (it_t ?_ (rd_i rfl mB.k (ix_m (n := 6 * l + pk) mB.a41 rfl (by omega) (by omega) (it_f (not_not_intro (p9.trans hr)) (rd_i rfl mB.k (rd_i rfl mB.k (ix_m (n := 6 * l + pk) mB.a36 rfl (by omega) (by omega) (rd_i rfl mB.k (ix_m (n := 6 * l + pk) mB.a39 rfl (by omega) (by omega) (rd_i rfl mB.k ?_)))))))))))))
    · rw [cmp_ge0, I64_le]
      rw [I64_lt] at e820
      omega
    · rw [p3 (by rw [h10]; decide), hof, p6]
      refine clI_i e189 (ix_m (n := 6 * l + pk) ⟨mB.a41.1, hM1.1.a41.2⟩ rfl (by omega) (by omega) (bd_i ?_))
      rw [hM2e]
      exact e53
  · exact AtH.bJ ⟨by rw [aI_uJ], by rw [aI_uJ], by rw [aJ_uJ, up1_no (by omega)], by rw [aJ_uJ, up1_no (by omega)]⟩
-- what stays true
theorem cntW_row {l pk : Nat} {q : TL} {t : TQ} {v : Int32} (hq : T[l]? = some q) (ht : q.2.2.1[pk]? = some t) (hr : t.2.2.2.2.2 = -1) (hv : ¬ v = -1) : cntW (T.set l (q_row q pk t v)) = cntW T + 1 := by
  have hl : l < T.length := (List.getElem?_eq_some_iff.mp hq).1
  have he : T[l] = q := (List.getElem?_eq_some_iff.mp hq).2
  have hpk : pk < q.2.2.1.length := (List.getElem?_eq_some_iff.mp ht).1
  have hte : q.2.2.1[pk] = t := (List.getElem?_eq_some_iff.mp ht).2
  have inner : ((q_row q pk t v).2.2.1.filter (fun t => t.2.2.2.2.2 != -1)).length = (q.2.2.1.filter (fun t => t.2.2.2.2.2 != -1)).length + 1 := by
    show ((q.2.2.1.set pk (t_row t v)).filter (fun t => t.2.2.2.2.2 != -1)).length = _
    rw [List.set_eq_take_append_cons_drop, if_pos hpk]
    conv => rhs; rw [← List.take_append_drop pk q.2.2.1, List.drop_eq_getElem_cons hpk, hte]
    rw [List.filter_append, List.filter_append, List.length_append, List.length_append, List.filter_cons_of_pos (by show (v != -1) = true; exact bne_iff_ne.mpr hv), List.filter_cons_of_neg (by rw [hr]; decide), List.length_cons]
    omega
  unfold cntW
  rw [List.set_eq_take_append_cons_drop, if_pos hl]
  conv => rhs; rw [← List.take_append_drop l T, List.drop_eq_getElem_cons hl, he]
  rw [List.map_append, List.map_append, List.sum_append, List.sum_append, List.map_cons, List.map_cons, List.sum_cons, List.sum_cons, inner]
  omega
theorem cntL_row {l pk : Nat} {q : TL} {t : TQ} {v : Int32} (hq : T[l]? = some q) : cntL (T.set l (q_row q pk t v)) = cntL T := by
  have hl : l < T.length := (List.getElem?_eq_some_iff.mp hq).1
  have he : T[l] = q := (List.getElem?_eq_some_iff.mp hq).2
  unfold cntL
  rw [List.set_eq_take_append_cons_drop, if_pos hl]
  conv => rhs; rw [← List.take_append_drop l T, List.drop_eq_getElem_cons hl, he]
  rw [List.filter_append, List.filter_append, List.length_append, List.length_append, List.filter_cons, List.filter_cons]
  have : (q_row q pk t v).2.2.2 = q.2.2.2 := rfl
  rw [this]
  split <;> rfl
theorem valOK.appW {o : Nat} {s f : Int32} {v : Int64} {w : TW} (h : valOK E F W O o s f v) : valOK E F (W ++ [w]) O o s f v := by
  obtain ⟨a, b, c, d, e⟩ := h
  refine ⟨a, b, c, fun z => ?_, e⟩
  rcases d z with d | ⟨r, w', y1, y2⟩
  · exact Or.inl d
  · exact Or.inr ⟨r, w', app_old y1, y2⟩
theorem aw_row {l pk g : Nat} {q : TL} {t : TQ} (aw : AW E R F W O T S jW jO) (hq : T[l]? = some q) (ht : q.2.2.1[pk]? = some t) (hr : t.2.2.2.2.2 = -1) (hg : g < 8) (hof : t.2.2.1 = nI g) (h440 : W.length < 440) : AW E R F (W ++ [(t.2.2.1, t.2.2.2.2.1)]) O (T.set l (q_row q pk t (nI W.length))) S (jW - 1) jO := by
  obtain ⟨a1, a2, a3, a4, a5, b1, b2, b3, b4, b5, b6, b7, b8, b9, b10⟩ := aw
  have hl : l < T.length := (List.getElem?_eq_some_iff.mp hq).1
  have hpk : pk < q.2.2.1.length := (List.getElem?_eq_some_iff.mp ht).1
  have eW : (W ++ [(t.2.2.1, t.2.2.2.2.1)]).length = W.length + 1 := by rw [List.length_append]; rfl
  refine ⟨a1, a2, by rw [hof]; exact wfW_app a3 hg, fun o u hu => ?_, ?_, b1, b2, b3, b4, by rw [cntL_row hq]; exact b5, ?_, ?_, b8, b9, b10⟩
  · obtain ⟨rc, y1, y2, y3, y4⟩ := a4 o u hu
    exact ⟨rc, y1, y2, by rw [List.length_set]; exact y3, fun p s v hs hv => (y4 p s v hs hv).appW⟩
  · rw [eW]
    intro l' u hu
    rw [List.getElem?_set] at hu
    by_cases c : l = l'
    · subst c
      rw [if_pos rfl, if_pos hl] at hu
      have hu : q_row q pk t (nI W.length) = u := Option.some.inj hu
      subst hu
      obtain ⟨y1, y2, y3⟩ := (a5.mono (nW' := W.length + 1) (by omega) (Nat.le_refl _)) l q hq
      refine ⟨y1, y2, fun p u hu => ?_⟩
      have hu : (q.2.2.1.set pk (t_row t (nI W.length)))[p]? = some u := hu
      rw [List.getElem?_set] at hu
      by_cases d : pk = p
      · subst d
        rw [if_pos rfl, if_pos hpk] at hu
        have hu : t_row t (nI W.length) = u := Option.some.inj hu
        subst hu
        obtain ⟨z1, z2, z3, z4, z5, z6, z7⟩ := y3 pk t ht
        exact ⟨z1, z2, z3, z4, z5, z6, Or.inr ⟨W.length, by omega, rfl⟩⟩
      · rw [if_neg d] at hu
        exact y3 p u hu
    · rw [if_neg c] at hu
      exact (a5.mono (by omega) (Nat.le_refl _)) l' u hu
  · rw [eW, cntW_row hq ht hr (nI_m1 (by omega))]
    omega
  · rw [eW]
    omega
end OPS
