/-! CHECKS -/
section OPS
variable {x : Nat} {E E' : List TE} {R R' : List TR} {F F' : List TF} {W W' : List TW} {O O' : List TO} {T T' : List TL} {S S' : TS} {jW jO jW' jO' n : Nat} {M M' M1 : Mem}
noncomputable def btB (s : Int32) (v a b : Int64) : Bool := if h : s < 8 ∧ shp s v = v then Classical.choose (btw_both (a := a) (b := b) h.1 h.2) else false
theorem btB_spec {s : Int32} {v a b : Int64} (hs : s < 8) (hv : shp s v = v) : (∀ M, ex 34 9 [pI s, pJ v, pJ a, pJ b] M = some (some (pI (b32 (btB s v a b))), M)) ∧ (∀ M, ex 201 9 [pI s, pJ v, pJ a, pJ b] M = some (some (pI (b32 (btB s v a b))), M)) := by
  unfold btB
  rw [dif_pos ⟨hs, hv⟩]
  exact Classical.choose_spec (btw_both (a := a) (b := b) hs hv)
/-- what a check throws, or 0 -/
noncomputable def chV (E : List TE) (W : List TW) (O : List TO) (c : TK) (t : TP) (v : Int64) : Int32 :=
  if c.2.1 = 0 then (if btB t.2.1 v c.2.2.1 c.2.2.2 = true then 0 else 1) else if c.2.1 = 1 then (if v = -1 then 2 else 0) else if c.2.1 = 2 then (if v = 0 then 3 else 0) else if c.2.1 = 3 then (if 0 ≤ lg_cmp (v - v / 8 * 8) 0 then 0 else 4) else if c.2.1 = 4 then (if v = -1 then 2 else if c.2.2.1 < 0 ∨ lN (W.getD v.toInt32.toNatClampNeg (0, [])).2.length ≤ c.2.2.1 then 5 else 0) else if c.2.1 = 5 then (if v = -1 then 0 else if lN (O.getD v.toInt32.toNatClampNeg (0, [], 0, 0)).1 = c.2.2.1 then 0 else 6) else (if v = -1 then 0 else if ((E.getD t.2.2.1.toNatClampNeg ([], 0, 0, 0)).1.getD v.toInt32.toNatClampNeg (0, 0)).2 = 0 then 7 else 0)
theorem c_thrown {c : TK} {t : TP} {kc kp o : Nat} {v : Int64} (hX : XI x E R F W O T S jW jO M) (hE4 : E.length ≤ 4) (hR6 : R.length ≤ 6) (hq : cK M c kc) (hp : cP M t kp) (hck : chkOK c.2.1 t.2.1) (hv : valOK E F W O o t.2.1 t.2.2.1 v) (hO : ∀ (o' : Nat) (q : TO), O[o']? = some q → q.1 < 6) : ex 128 5 [pR (some x), pR (some kc), pR (some kp), pJ v] M = some (some (pI (chV E W O c t v)), M) := by
  obtain ⟨⟨hB, -, -⟩, hE, -, hF, hW, hO', -, -⟩ := id hX
  have hWl := hW.len0
  have hOl := hO'.len0
  obtain ⟨q1, q2, q3, q4, q5⟩ := hq
  obtain ⟨p1, p2, p3, p4, p5⟩ := hp
  obtain ⟨v1, v2, v3, v4, v5⟩ := hv
  have nm1 : lg_cmp v (-1 : Int64) = 0 ↔ v = -1 := cmp_eq0
  rw [tX11_thrownBy]
  refine rd_i rfl q1 ?_
  rw [q3]
  rcases hck with ⟨k0, s0⟩ | ⟨k0, s0⟩ | ⟨k0, s0, s0'⟩ | ⟨k0, s0, s0'⟩ | ⟨k0, s0⟩ | ⟨k0, s0⟩ | ⟨k0, s0⟩
  · have ev : chV E W O c t v = (if btB t.2.1 v c.2.2.1 c.2.2.2 = true then 0 else 1) := by unfold chV; rw [if_pos k0]
    rw [ev]
    refine it_t k0 (rd_i rfl p1 (rd_i rfl q1 (rd_i rfl q1 ?_)))
    rw [p3, q4, q5]
    refine clI_i ((btB_spec s0 (v1 s0)).1 M) ?_
    cases btB t.2.1 v c.2.2.1 c.2.2.2 with
    | true => exact it_f (by decide) rfl
    | false => exact it_t rfl rfl
  · have ev : chV E W O c t v = (if v = -1 then 2 else 0) := by
      unfold chV
      rw [if_neg (by rw [k0]; decide), if_pos k0]
    rw [ev, k0]
    refine it_f (by decide) (it_t rfl ?_)
    by_cases z : v = -1
    · rw [if_pos z]; exact it_f (not_not_intro (nm1.mpr z)) rfl
    · rw [if_neg z]; exact it_t (fun w => z (nm1.mp w)) rfl
  · have ev : chV E W O c t v = (if v = 0 then 3 else 0) := by
      unfold chV
      rw [if_neg (by rw [k0]; decide), if_neg (by rw [k0]; decide), if_pos k0]
    rw [ev, k0]
    refine it_f (by decide) (it_f (by decide) (it_t rfl ?_))
    by_cases z : v = 0
    · rw [if_pos z]; exact it_f (not_not_intro (cmp_eq0.mpr z)) rfl
    · rw [if_neg z]; exact it_t (fun w => z (cmp_eq0.mp w)) rfl
  · have ev : chV E W O c t v = (if 0 ≤ lg_cmp (v - v / 8 * 8) 0 then 0 else 4) := by
      unfold chV
      rw [if_neg (by rw [k0]; decide), if_neg (by rw [k0]; decide), if_neg (by rw [k0]; decide), if_pos k0]
    rw [ev, k0]
    refine it_f (by decide) (it_f (by decide) (it_f (by decide) (it_t rfl (gd_i (by decide) ?_))))
    by_cases z : 0 ≤ lg_cmp (v - v / 8 * 8) 0
    · rw [if_pos z, if_pos z]
    · rw [if_neg z, if_neg z]
  · have ev : chV E W O c t v = (if v = -1 then 2 else if c.2.2.1 < 0 ∨ lN (W.getD v.toInt32.toNatClampNeg (0, [])).2.length ≤ c.2.2.1 then 5 else 0) := by
      unfold chV
      rw [if_neg (by rw [k0]; decide), if_neg (by rw [k0]; decide), if_neg (by rw [k0]; decide), if_neg (by rw [k0]; decide), if_pos k0]
    rw [ev, k0]
    refine it_f (by decide) (it_f (by decide) (it_f (by decide) (it_f (by decide) (it_t rfl (rd_i rfl hB.k ?_)))))
    rcases v4 s0 with rfl | ⟨r, w, w1, rfl, w3⟩
    · rw [if_pos rfl]
      have e129 : ex 129 3 [pR (none : Option Nat), pJ c.2.2.1] M = some (some (pI 2), M) := by
        rw [tX11_thrownByItem]
        exact it_t rfl rfl
      refine clR_i (c_rowAt_no hB hW (Or.inl (by decide))) (rd_i rfl q1 ?_)
      rw [q4]
      exact clI_i e129 rfl
    · have hr : r < W.length := (List.getElem?_eq_some_iff.mp w1).1
      obtain ⟨a, c110, -, cw⟩ := c_rowAt hB hW w1
      have lw := (cw.2.2.2.2 w rfl).2.2.1
      have gw : W.getD r (0, []) = w := by rw [List.getD_eq_getElem?_getD, w1]; rfl
      rw [if_neg (lN_ne (by omega)), lN_back (by omega), gw]
      have e129 : ex 129 3 [pR (some a), pJ c.2.2.1] M = some (some (pI (if c.2.2.1 < 0 ∨ lN w.2.length ≤ c.2.2.1 then 5 else 0)), M) := by
        rw [tX11_thrownByItem]
        refine it_f (fun z => nomatch z) (rd_i rfl cw.1 ?_)
        rcases l_or c.2.2.1 (n := w.2.length) (by omega) with z | ⟨i, z1, z2⟩
        · rw [if_pos z]
          exact clI_i (c_hasItem_no cw z) (it_t rfl rfl)
        · rw [if_neg (fun y => by
            rw [z2] at y
            rcases y with y | y
            · exact lN_nn (by omega) y
            · rw [lN_le (by omega) (by omega)] at y; omega)]
          rw [z2]
          exact clI_i (c_hasItem cw z1) (it_f (by decide) rfl)
      refine clR_i c110 (rd_i rfl q1 ?_)
      rw [q4]
      exact clI_i e129 rfl
  · have ev : chV E W O c t v = (if v = -1 then 0 else if lN (O.getD v.toInt32.toNatClampNeg (0, [], 0, 0)).1 = c.2.2.1 then 0 else 6) := by
      unfold chV
      rw [if_neg (by rw [k0]; decide), if_neg (by rw [k0]; decide), if_neg (by rw [k0]; decide), if_neg (by rw [k0]; decide), if_neg (by rw [k0]; decide), if_pos k0]
    rw [ev, k0]
    refine it_f (by decide) (it_f (by decide) (it_f (by decide) (it_f (by decide) (it_f (by decide) (it_t rfl (rd_i rfl hB.k ?_))))))
    rcases v5 s0 with rfl | ⟨o', q', g, fq, w0, w1, rfl, -⟩
    · rw [if_pos rfl]
      have e130 : ex 130 3 [pR (none : Option Nat), pJ c.2.2.1] M = some (some (pI 0), M) := by
        rw [tX11_thrownByCast]
        exact it_t rfl rfl
      refine clR_i (c_objAt_no hB hO' (Or.inl (by decide))) (rd_i rfl q1 ?_)
      rw [q4]
      exact clI_i e130 rfl
    · have hr : o' < O.length := (List.getElem?_eq_some_iff.mp w1).1
      obtain ⟨a, c111, -, cw⟩ := c_objAt hB hO' w1
      have lw := (cw.2.2.2.2 q' rfl).1
      have gw : O.getD o' (0, [], 0, 0) = q' := by rw [List.getD_eq_getElem?_getD, w1]; rfl
      have h6 := hO o' q' w1
      rw [if_neg (lN_ne (by omega)), lN_back (by omega), gw]
      have e130 : ex 130 3 [pR (some a), pJ c.2.2.1] M = some (some (pI (if lN q'.1 = c.2.2.1 then 0 else 6)), M) := by
        rw [tX11_thrownByCast]
        refine it_f (fun z => nomatch z) (rd_i rfl cw.1 ?_)
        rw [lw, nI_l (by omega)]
        by_cases z : lN q'.1 = c.2.2.1
        · rw [if_pos z]; exact it_f (not_not_intro (cmp_eq0.mpr z)) rfl
        · rw [if_neg z]; exact it_t (fun w => z (cmp_eq0.mp w)) rfl
      refine clR_i c111 (rd_i rfl q1 ?_)
      rw [q4]
      exact clI_i e130 rfl
  · have ev : chV E W O c t v = (if v = -1 then 0 else if ((E.getD t.2.2.1.toNatClampNeg ([], 0, 0, 0)).1.getD v.toInt32.toNatClampNeg (0, 0)).2 = 0 then 7 else 0) := by
      unfold chV
      rw [if_neg (by rw [k0]; decide), if_neg (by rw [k0]; decide), if_neg (by rw [k0]; decide), if_neg (by rw [k0]; decide), if_neg (by rw [k0]; decide), if_neg (by rw [k0]; decide)]
    rw [ev, k0]
    refine it_f (by decide) (it_f (by decide) (it_f (by decide) (it_f (by decide) (it_f (by decide) (it_f (by decide) (it_t rfl (rd_i rfl p1 (rd_i rfl hB.k ?_))))))))
    rw [p4 (by rw [s0]; decide)]
    rcases v2 s0 with rfl | ⟨e, qe, cc, w0, w1, w2, rfl⟩
    · rw [if_pos rfl]
      have e131 : ex 131 6 [pR (some x), pI t.2.2.1, pJ (-1 : Int64)] M = some (some (pI 0), M) := by
        rw [tX11_thrownByLaying]
        rcases oob_or t.2.2.1 E.length (by omega) with ho | ⟨e, he, hf⟩
        · exact rd_i rfl hB.k (clR_i (c_enumAt_no hB hE ho) (it_t rfl (it_t rfl rfl)))
        · obtain ⟨a, c107, -, hc, -⟩ := c_enumAt hB hE (List.getElem?_eq_getElem he)
          rw [hf]
          exact rd_i rfl hB.k (clR_i c107 (it_f (fun z => nomatch z) (rd_i rfl hc.1 (clR_i (c_constAt_no hc (Or.inl (by decide))) (it_t rfl rfl)))))
      exact clI_i e131 rfl
    · have he : e < E.length := (List.getElem?_eq_some_iff.mp w1).1
      obtain ⟨a, c107, -, hc, -⟩ := c_enumAt hB hE w1
      have hcl := hc.2.2.2.2.2.len
      obtain ⟨r, hr⟩ : ∃ r, qe.1[cc]? = some r := ⟨_, List.getElem?_eq_getElem w2⟩
      obtain ⟨kk, c46, -, kc', -⟩ := c_constAt hc hr
      have ge : E.getD e ([], 0, 0, 0) = qe := by rw [List.getD_eq_getElem?_getD, w1]; rfl
      have gr : qe.1.getD cc (0, 0) = r := by rw [List.getD_eq_getElem?_getD, hr]; rfl
      rw [if_neg (lN_ne (by omega)), lN_back (by omega), w0, nI_clamp (by omega), ge, gr]
      have e131 : ex 131 6 [pR (some x), pI (nI e), pJ (lN cc)] M = some (some (pI (if r.2 = 0 then 7 else 0)), M) := by
        rw [tX11_thrownByLaying]
        refine rd_i rfl hB.k (clR_i c107 (it_f (fun z => nomatch z) (rd_i rfl hc.1 (clR_i c46 (it_f (fun z => nomatch z) (rd_i rfl kc'.1 ?_))))))
        rw [kc'.2.2]
        by_cases z : r.2 = 0
        · rw [if_pos z, if_pos z]
        · rw [if_neg z, if_neg z]
      exact clI_i e131 rfl
theorem m_checked {m r k : Nat} {rc : TR} {c : TK} {t : TP} {o : Nat} {v : Int64} (hM : MI m E R F W O T S M) (hrc : R[r]? = some rc) (hc : rc.2.1[k]? = some c) (ht : rc.1[c.1]? = some t) (hck : chkOK c.2.1 t.2.1) (hv : valOK E F W O o t.2.1 t.2.2.1 v) (hnow : aJ M (m + 29) c.1 = v) (hO : ∀ (o' : Nat) (q : TO), O[o']? = some q → q.1 < 6) : ex 200 9 [pR (some m), pI (nI r), pI (nI (4 * r + k))] M = some (some (pI (chV E W O c t v)), M) := by
  obtain ⟨mB, mE, mR, mF, mW, mO, -, -⟩ := id hM
  have hE4 := mE.2.1
  have hR6 := mR.2.1
  have hW4 := mW.2.1
  have hO1 := mO.2.1
  have hr : r < R.length := (List.getElem?_eq_some_iff.mp hrc).1
  have hk : k < rc.2.1.length := (List.getElem?_eq_some_iff.mp hc).1
  have hp : c.1 < rc.1.length := (List.getElem?_eq_some_iff.mp ht).1
  obtain ⟨⟨z1, z2, z3⟩, ⟨z4, z5, z6⟩, -⟩ := mR.2.2.1 r rc hrc
  obtain ⟨y1, y2, y3, y4⟩ := z3 c.1 t ht
  obtain ⟨c1, c2, c3, c4⟩ := z6 k c hc
  obtain ⟨v1, v2, v3, v4, v5⟩ := hv
  have nm1 : lg_cmp v (-1 : Int64) = 0 ↔ v = -1 := cmp_eq0
  rw [tX12_checked]
  refine rd_i rfl mB.k (ix_m (n := 4 * r + k) mB.a11 rfl (by omega) (by omega) (rd_i rfl mB.k (ix_m (n := c.1) mB.a29 c1 (by omega) (by omega) (rd_i rfl mB.k (ix_m (n := 4 * r + k) mB.a13 rfl (by omega) (by omega) (rd_i rfl mB.k (ix_m (n := 4 * r + k) mB.a12 rfl (by omega) (by omega) ?_)))))))
  rw [c1, c2, c3, hnow]
  rcases hck with ⟨k0, s0⟩ | ⟨k0, s0⟩ | ⟨k0, s0, s0'⟩ | ⟨k0, s0, s0'⟩ | ⟨k0, s0⟩ | ⟨k0, s0⟩ | ⟨k0, s0⟩
  · have ev : chV E W O c t v = (if btB t.2.1 v c.2.2.1 c.2.2.2 = true then 0 else 1) := by unfold chV; rw [if_pos k0]
    rw [ev]
    refine it_t k0 (rd_i rfl mB.k (ix_m (n := 6 * r + c.1) mB.a7 (m6 r c.1) (by omega) (by omega) (rd_i rfl mB.k (ix_m (n := 4 * r + k) mB.a14 rfl (by omega) (by omega) ?_))))
    rw [y2, c4]
    refine clI_i ((btB_spec s0 (v1 s0)).2 M) ?_
    cases btB t.2.1 v c.2.2.1 c.2.2.2 with
    | true => exact it_f (by decide) rfl
    | false => exact it_t rfl rfl
  · have ev : chV E W O c t v = (if v = -1 then 2 else 0) := by
      unfold chV
      rw [if_neg (by rw [k0]; decide), if_pos k0]
    rw [ev, k0]
    refine it_f (by decide) (it_t rfl ?_)
    by_cases z : v = -1
    · rw [if_pos z]; exact it_f (not_not_intro (nm1.mpr z)) rfl
    · rw [if_neg z]; exact it_t (fun w => z (nm1.mp w)) rfl
  · have ev : chV E W O c t v = (if v = 0 then 3 else 0) := by
      unfold chV
      rw [if_neg (by rw [k0]; decide), if_neg (by rw [k0]; decide), if_pos k0]
    rw [ev, k0]
    refine it_f (by decide) (it_f (by decide) (it_t rfl ?_))
    by_cases z : v = 0
    · rw [if_pos z]; exact it_f (not_not_intro (cmp_eq0.mpr z)) rfl
    · rw [if_neg z]; exact it_t (fun w => z (cmp_eq0.mp w)) rfl
  · have ev : chV E W O c t v = (if 0 ≤ lg_cmp (v - v / 8 * 8) 0 then 0 else 4) := by
      unfold chV
      rw [if_neg (by rw [k0]; decide), if_neg (by rw [k0]; decide), if_neg (by rw [k0]; decide), if_pos k0]
    rw [ev, k0]
    refine it_f (by decide) (it_f (by decide) (it_f (by decide) (it_t rfl (gd_i (by decide) ?_))))
    by_cases z : 0 ≤ lg_cmp (v - v / 8 * 8) 0
    · rw [if_pos z, if_pos z]
    · rw [if_neg z, if_neg z]
  · have ev : chV E W O c t v = (if v = -1 then 2 else if c.2.2.1 < 0 ∨ lN (W.getD v.toInt32.toNatClampNeg (0, [])).2.length ≤ c.2.2.1 then 5 else 0) := by
      unfold chV
      rw [if_neg (by rw [k0]; decide), if_neg (by rw [k0]; decide), if_neg (by rw [k0]; decide), if_neg (by rw [k0]; decide), if_pos k0]
    rw [ev, k0]
    refine it_f (by decide) (it_f (by decide) (it_f (by decide) (it_f (by decide) (it_t rfl ?_))))
    rcases v4 s0 with rfl | ⟨r', w, w1, rfl, w3⟩
    · rw [if_pos rfl]
      exact it_f (not_not_intro (nm1.mpr rfl)) rfl
    · have hr' : r' < W.length := (List.getElem?_eq_some_iff.mp w1).1
      obtain ⟨l1, l2, l3, l4⟩ := mW.2.2 r' w w1
      have gw : W.getD r' (0, []) = w := by rw [List.getD_eq_getElem?_getD, w1]; rfl
      rw [if_neg (lN_ne (by omega)), lN_back (by omega), gw]
      refine it_t (fun z => lN_ne (by omega) (nm1.mp z)) (rd_i rfl mB.k (ix_m (n := r') mB.a23 (lN_i _) (by omega) (by omega) ?_))
      rw [l3]
      refine clI_i (m_in _ _ _ M) ?_
      rcases l_or c.2.2.1 (n := w.2.length) (by omega) with z | ⟨i, z1, z2⟩
      · rw [if_pos z, inL_no (by omega) z]
        exact it_t rfl rfl
      · have ne : ¬ (c.2.2.1 < 0 ∨ lN w.2.length ≤ c.2.2.1) := fun y => by
          rw [z2] at y
          rcases y with y | y
          · exact lN_nn (by omega) y
          · rw [lN_le (by omega) (by omega)] at y; omega
        rw [show (if c.2.2.1 < 0 ∨ lN w.2.length ≤ c.2.2.1 then (5 : Int32) else 0) = 0 from if_neg ne, z2, inL_yes (by omega) z1]
        exact it_f (by decide) rfl
  · have ev : chV E W O c t v = (if v = -1 then 0 else if lN (O.getD v.toInt32.toNatClampNeg (0, [], 0, 0)).1 = c.2.2.1 then 0 else 6) := by
      unfold chV
      rw [if_neg (by rw [k0]; decide), if_neg (by rw [k0]; decide), if_neg (by rw [k0]; decide), if_neg (by rw [k0]; decide), if_neg (by rw [k0]; decide), if_pos k0]
    rw [ev, k0]
    refine it_f (by decide) (it_f (by decide) (it_f (by decide) (it_f (by decide) (it_f (by decide) (it_t rfl ?_)))))
    rcases v5 s0 with rfl | ⟨o', q', g, fq, w0, w1, rfl, -⟩
    · rw [if_pos rfl]
      exact it_t (nm1.mpr rfl) rfl
    · have hr' : o' < O.length := (List.getElem?_eq_some_iff.mp w1).1
      have lw := (mO.2.2 o' q' w1).2.1
      have gw : O.getD o' (0, [], 0, 0) = q' := by rw [List.getD_eq_getElem?_getD, w1]; rfl
      have h6 := hO o' q' w1
      rw [if_neg (lN_ne (by omega)), lN_back (by omega), gw]
      refine it_f (fun z => lN_ne (by omega) (nm1.mp z)) (rd_i rfl mB.k (ix_m (n := o') mB.a25 (lN_i _) (by omega) (by omega) ?_))
      rw [lw, nI_l (by omega)]
      by_cases z : lN q'.1 = c.2.2.1
      · rw [if_pos z]; exact it_t (cmp_eq0.mpr z) rfl
      · rw [if_neg z]; exact it_f (fun w => z (cmp_eq0.mp w)) rfl
  · have ev : chV E W O c t v = (if v = -1 then 0 else if ((E.getD t.2.2.1.toNatClampNeg ([], 0, 0, 0)).1.getD v.toInt32.toNatClampNeg (0, 0)).2 = 0 then 7 else 0) := by
      unfold chV
      rw [if_neg (by rw [k0]; decide), if_neg (by rw [k0]; decide), if_neg (by rw [k0]; decide), if_neg (by rw [k0]; decide), if_neg (by rw [k0]; decide), if_neg (by rw [k0]; decide)]
    rw [ev, k0]
    refine it_f (by decide) (it_f (by decide) (it_f (by decide) (it_f (by decide) (it_f (by decide) (it_f (by decide) ?_)))))
    rcases v2 s0 with rfl | ⟨e, qe, cc, w0, w1, w2, rfl⟩
    · rw [if_pos rfl]
      exact it_t (nm1.mpr rfl) rfl
    · have he : e < E.length := (List.getElem?_eq_some_iff.mp w1).1
      obtain ⟨x1, x2, x3, -⟩ := mE.2.2.1 e qe w1
      obtain ⟨rr, hr'⟩ : ∃ r, qe.1[cc]? = some r := ⟨_, List.getElem?_eq_getElem w2⟩
      have xb := (x3 cc rr hr').2.1
      have ge : E.getD e ([], 0, 0, 0) = qe := by rw [List.getD_eq_getElem?_getD, w1]; rfl
      have gr : qe.1.getD cc (0, 0) = rr := by rw [List.getD_eq_getElem?_getD, hr']; rfl
      rw [if_neg (lN_ne (by omega)), lN_back (by omega), w0, nI_clamp (by omega), ge, gr]
      refine it_f (fun z => lN_ne (by omega) (nm1.mp z)) (rd_i rfl mB.k (rd_i rfl mB.k (ix_m (n := 6 * r + c.1) mB.a8 (m6 r c.1) (by omega) (by omega) (ix_m (n := 8 * e + cc) mB.a3 (by rw [y3, w0, lN_i, m8]) (by omega) (by omega) ?_))))
      rw [xb]
      by_cases z : rr.2 = 0
      · rw [if_pos z]; exact it_f (not_not_intro z) rfl
      · rw [if_neg z]; exact it_t z rfl
end OPS
