/-! CALLS: make, the whole of it -/
section OPS
variable {x : Nat} {E E' : List TE} {R R' : List TR} {F F' : List TF} {W W' : List TW} {O O' : List TO} {T T' : List TL} {S S' : TS} {jW jO jW' jO' n : Nat} {M M' M1 : Mem}
theorem XS.s712 {S : TS} (h : XS x M S) : XS x (sI M 712 x (nI S.2.1 + 1)) (S.1, S.2.1 + 1, S.2.2) := by
  obtain ⟨s1, s2, s3, s4, s5, s6, s7, s8, s9⟩ := h
  refine ⟨?_, ?_, ?_, s4, s5, s6, ?_, ?_, ?_⟩
  · rw [gI_sI, up2_ne (by omega)]; exact s1
  · rw [gI_sI, up2_at, nI_1]
  · rw [gI_sI, up2_ne (by omega)]; exact s3
  · rw [gI_sI, up2_ne (by omega)]; exact s7
  · rw [gI_sI, up2_ne (by omega)]; exact s8
  · rw [gI_sI, up2_ne (by omega)]; exact s9
theorem MI.s792 {m k : Nat} {v : Int32} (h : MI m E R F W O T S M) (hv : v = nI k) : MI m E R F W O T (S.1, k, S.2.2) (sI M 792 m v) := by
  obtain ⟨s1, s2, s3, s4, s5, s6, s7, s8⟩ := h.2.2.2.2.2.2.2
  refine h.us (US.rf.bI (by decide)) ⟨?_, ?_, ?_, s4, s5, ⟨?_, ?_, ?_, ?_, ?_⟩, ?_, ?_⟩
  · rw [gI_sI, up2_ne (by omega)]; exact s1
  · rw [gI_sI, up2_at]; exact hv
  · rw [gI_sI, up2_ne (by omega)]; exact s3
  · rw [gI_sI, up2_ne (by omega)]; exact s6.1
  · rw [gI_sI, up2_ne (by omega)]; exact s6.2.1
  · rw [gI_sI, up2_ne (by omega)]; exact s6.2.2.1
  · rw [gI_sI, up2_ne (by omega)]; exact s6.2.2.2.1
  · rw [gI_sI, up2_ne (by omega)]; exact s6.2.2.2.2
  · rw [gI_sI, up2_ne (by omega)]; exact s7
  · rw [gI_sI, up2_ne (by omega)]; exact s8
theorem wfT.mono {nR nW nO nW' nO' : Nat} (h : wfT nR nW nO T) (hW : nW ≤ nW') (hO : nO ≤ nO') : wfT nR nW' nO' T := fun l q hq => by
  obtain ⟨y1, y2, y3⟩ := h l q hq
  refine ⟨y1, ?_, fun p t ht => ?_⟩
  · rcases y2 with y2 | ⟨o, u1, u2⟩
    · exact Or.inl y2
    · exact Or.inr ⟨o, by omega, u2⟩
  · obtain ⟨z1, z2, z3, z4, z5, z6, z7⟩ := y3 p t ht
    refine ⟨z1, z2, z3, z4, z5, z6, ?_⟩
    rcases z7 with z7 | ⟨r, u1, u2⟩
    · exact Or.inl z7
    · exact Or.inr ⟨r, by omega, u2⟩
theorem cntL_le (T : List TL) : cntL T ≤ T.length := List.length_filter_le _ _
theorem op_make (h : Inv x E R F W O T S jW jO M) (e : Int32) : Op x W O T jW jO M (fun M => ex 91 4 [pR (some x), pI e] M) (fun M => ex 202 4 [pR (some (x + 12)), pI e] M) := by
  obtain ⟨hX, hM, aw⟩ := id h
  obtain ⟨⟨hB, hv, hL⟩, hE, hR, hF, hW, hO, -, hS⟩ := id hX
  obtain ⟨mB, mE, mR, mF, mW, mO, mL, mS⟩ := id hM
  have hEl := mE.2.1
  have hRl := mR.2.1
  have hFl := mF.2.1
  have hOl := mO.2.1
  have hTl := mL.2.1
  have hcl := cntL_le T
  obtain ⟨b1, b2, b3, b4, b5, b6, b7, b8, b9, b10⟩ := id aw.2.2.2.2.2
  rcases oob_or e R.length (by omega) with ho | ⟨r, hr, rfl⟩
  · refine Op.keep h (v := pI (-1)) ?_ ?_
    · show ex 91 4 [pR (some x), pI e] M = _
      rw [tX11_make]
      exact rd_i rfl hB.k (clR_i (c_recAt_no hB hR ho) (it_t rfl rfl))
    · show ex 202 4 [pR (some (x + 12)), pI e] M = _
      rw [tX12_make]
      exact rd_i rfl mB.k (clI_i (m_isRec_no mB mR ho) (it_f (not_not_intro rfl) rfl))
  obtain ⟨q, hq⟩ : ∃ q, R[r]? = some q := ⟨_, List.getElem?_eq_getElem hr⟩
  obtain ⟨a, c108, hxa, hc, -⟩ := c_recAt hB hR hq
  have hq6 := (mR.2.2.1 r q hq).1.1
  have df := c_draftFits hX aw hq hc hEl (fun e q he => (mE.2.2.1 e q he).1) (aw.2.1.len6 hRl hFl) hq6 q.1.length 0 (by omega)
  have runc : ∀ {rr : Option Rt}, (clI (rn PP 121 2 [some (pR (some x)), some (pR (some a)), some (pI 0)] [] M) fun r6 M4 => if ¬ r6 = 0 then rd (some x) 11 M4 fun a7 => if gI M4 712 a7 < 100 then rn PP 91 34 [some (pR (some x)), some (pI (nI r)), some (pR (some a)), some (pI 0)] [] M4 else some (some (pI (-3)), M4) else some (some (pI (-1)), M4)) = rr → ex 91 4 [pR (some x), pI (nI r)] M = rr := fun {rr} hr' => by
    rw [tX11_make]
    refine rd_i rfl hB.k (clR_i c108 (it_f (fun z => nomatch z) (rd_i rfl hB.k ?_)))
    rw [tX11_draftFits]
    exact hr'
  have runm : ∀ {M1 : Mem} {rr : Option Rt}, MI (x + 12) E R F W O T S M1 → rn PP 202 12 [some (pR (some (x + 12))), some (pI (nI r)), some (pI 0), none] [] M1 = rr → ex 202 4 [pR (some (x + 12)), pI (nI r)] M1 = rr := fun {M1 rr} hM1 hr' => by
    rw [tX12_make]
    exact rd_i rfl hM1.1.k (clI_i (m_isRec hM1.1 hM1.2.2.1 hr) (it_t (by decide) hr'))
  by_cases hno : ∃ (j : Nat) (t : TP), 0 ≤ j ∧ q.1[j]? = some t ∧ ¬ gV E F W O t.2.1 t.2.2.1 (S.2.2.2.1 j)
  · refine Op.chg (n := 0) (v := pI (-1)) h (M1 := M) (runc (clI_i (df.2 hno) (it_f (not_not_intro rfl) rfl))) (Fr.rf hv hL) hX (fun hM1 => ?_) aw (by omega)
    obtain ⟨M2, cu, hM2, -, g2⟩ := m_mk12 aw hq q.1.length 0 M (by omega) hM1
    exact ⟨M2, runm hM1 (g2 hno), cu, hM2⟩
  have hfit : ∀ (j : Nat) (t : TP), 0 ≤ j → q.1[j]? = some t → gV E F W O t.2.1 t.2.2.1 (S.2.2.2.1 j) := fun j t h0 ht => Classical.byContradiction (fun z => hno ⟨j, t, h0, ht, z⟩)
  have c1 := df.1 hfit
  by_cases s100 : S.2.1 = 100
  · refine Op.chg (n := 0) (v := pI (-3)) h (M1 := M) (runc (clI_i c1 (it_t (by decide) (rd_i rfl hB.k (it_f (by rw [hS.2.1, s100]; decide) rfl))))) (Fr.rf hv hL) hX (fun hM1 => ?_) aw (by omega)
    obtain ⟨M2, cu, hM2, g1, -⟩ := m_mk12 aw hq q.1.length 0 M (by omega) hM1
    exact ⟨M2, runm hM1 ((g1 hfit).trans (rd_i rfl hM2.1.k (it_f (not_not_intro (by rw [hM2.2.2.2.2.2.2.2.2.1, s100]; rfl)) rfl))), cu, hM2⟩
  have c100 : gI M 712 x < 100 := by rw [hS.2.1]; exact nI_lt (b := 100) (by omega) (by decide)
  obtain ⟨g, eg, g1, -⟩ := c_mk34 (r := r) hq6 q.1.length 0 M (by omega) hX hc
  have f0 : Fr x No No No (fun d => d = x + 8) 0 M (uJ M (x + 8) g) := (Fr.rf hv hL).bAJ (Or.inl rfl)
  have hX0 : XI x E R F W O T S jW jO (uJ M (x + 8) g) := hX.frS f0 (fun _ q => q.elim) (fun _ q => q.elim) (fun d q => by omega) (hS.fr hB f0 (fun _ _ => id) ⟨id, id⟩ (by omega))
  have hV : V21 (uJ M (x + 8) g) (x + 8) (shD q S.2.2.2.1) := ⟨by rw [kd_uJ]; exact hB.r8.2.1, by rw [ln_uJ]; exact hB.r8.2.2, by rw [shD_len]; exact hq6, fun i v hi => by
    obtain ⟨t, ht, rfl⟩ := shD_at hi
    rw [aJ_uJ, up1_at]
    exact g1 i t (Nat.zero_le _) ht⟩
  have hval : ∀ (p : Nat) (t : TP) (v : Int64), q.1[p]? = some t → (shD q S.2.2.2.1)[p]? = some v → valOK E F W O O.length t.2.1 t.2.2.1 v := fun p t v ht hv => by
    obtain ⟨t', ht', rfl⟩ := shD_at hv
    rw [ht] at ht'
    cases ht'
    exact gV_val ((aw.1 r q hq).1 p t ht).1.1.1 (hfit p t (Nat.zero_le _) ht)
  have run2 : ∀ {rr : Option Rt}, (clI (ex 126 9 [pR (some x), pI (nI r), pR (some (x + 8)), pI (-1)] (uJ M (x + 8) g)) fun r8 M6 => if r8 < 0 then some (some (pI r8), M6) else rd (some x) 11 M6 fun a9 => rd (some x) 11 M6 fun a10 => bd (sI M6 712 a10 (gI M6 712 a9 + 1)) fun M11 => some (some (pI r8), M11)) = rr → ex 91 4 [pR (some x), pI (nI r)] M = rr := fun {rr} hr' => runc (clI_i c1 (it_t (by decide) (rd_i rfl hB.k (it_t c100 (eg.trans hr')))))
  generalize uJ M (x + 8) g = Ma at f0 hX0 hV run2
  obtain ⟨aw1, she, shr⟩ := aw_con (vs := shD q S.2.2.2.1) (l := -1) hq aw
  have hsl : S.2.1 = (con E R W O S r (shD q S.2.2.2.1) (-1)).2.2.2.2.1 := by
    have := aw1.2.2.2.2.2.2.2.2.2.1
    omega
  have fr : ∀ {n : Nat} {M1 : Mem}, Fr x KM (fun l => l = x + 5) (fun d => d = x + 6 ∨ d = x + 9) (JO x Ma) n Ma M1 → Fr x KX (AX x) (AX x) (AX x) (0 + n) M M1 := fun f1 => (f0.mo (K' := KX) (L' := AX x) (AI' := AX x) (AJ' := AX x) (Nat.le_refl _) (fun _ q => q.elim) (fun _ q => q.elim) (fun _ q => q.elim) (fun d q => by omega)).trN f1 (fun k q => by rcases q with q | q | q | q | q | q | q <;> (subst q; decide)) (fun l _ q => by omega) (fun d _ q => by omega) (fun d _ q => by have := q.1; omega)
  have model : ∀ {M1 : Mem}, MI (x + 12) E R F W O T S M1 → ∃ M3, CU (x + 12) M1 M3 ∧ MI (x + 12) E R F W O T S M3 ∧ (∀ (i : Nat) (v : Int64), (shD q S.2.2.2.1)[i]? = some v → aJ M3 (x + 12 + 29) i = v) ∧ ∀ {rr : Option Rt}, (clI (ex 199 8 [pR (some (x + 12)), pI (nI r), pI (-1)] M3) fun r6 M4 => rd (some (x + 12)) 12 M4 fun a7 => if r6 < 0 then rd (some (x + 12)) 12 M4 fun a8 => bd (sI M4 792 a8 (gI M4 792 a7 + 0)) fun M9 => some (some (pI r6), M9) else rd (some (x + 12)) 12 M4 fun a10 => bd (sI M4 792 a10 (gI M4 792 a7 + 1)) fun M11 => some (some (pI r6), M11)) = rr → ex 202 4 [pR (some (x + 12)), pI (nI r)] M1 = rr := fun {M1} hM1 => by
    obtain ⟨M2, cu2, hM2, y1, -⟩ := m_mk12 aw hq q.1.length 0 M1 (by omega) hM1
    obtain ⟨g', eg', g1', -⟩ := m_mk65 hq q.1.length 0 M2 (by omega) hM2
    refine ⟨uJ M2 (x + 12 + 29) g', cu2.tr (CU.rf.bAJ (by omega)), hM2.uz (UZ.rf.uJ (by decide)), fun i v hi => ?_, fun {rr} hr' => runm hM1 ((y1 hfit).trans (rd_i rfl hM2.1.k (it_t (fun z => ?_) (eg'.trans hr'))))⟩
    · obtain ⟨t, ht, rfl⟩ := shD_at hi
      rw [aJ_uJ, up1_at]
      exact g1' i t (Nat.zero_le _) ht
    · rw [hM2.2.2.2.2.2.2.2.2.1] at z
      have := nI_inj (b := 100) (by omega) (by omega) z
      omega
  rcases c_construct (l := -1) hX0 aw hq shD_len hEl hRl (by omega) hV hval with ⟨c, M1, hcn, e126, hX1, f1⟩ | ⟨tw, M1, hcn, e126, hX1, f1⟩
  · have neg := con_neg hq hcn
    refine Op.chg (E' := (con E R W O S r (shD q S.2.2.2.1) (-1)).2.1) (R' := (con E R W O S r (shD q S.2.2.2.1) (-1)).2.2.1) (S' := (con E R W O S r (shD q S.2.2.2.1) (-1)).2.2.2) (v := pI (-10 - c)) h (M1 := M1) (run2 (clI_i e126 (it_t neg rfl))) (fr f1) hX1 (fun hM1 => ?_) aw1 (by omega)
    obtain ⟨M3, cu3, hM3, hnow, run⟩ := model hM1
    obtain ⟨M4, e199, cu4, hM4, -⟩ := (m_made (l := -1) hM3 aw hq shD_len hnow (by omega) hval).1 c hcn
    have e0 : gI M4 792 (x + 12) + 0 = nI (con E R W O S r (shD q S.2.2.2.1) (-1)).2.2.2.2.1 := by rw [hM4.2.2.2.2.2.2.2.2.1, Int32.add_zero]
    exact ⟨_, run (clI_i e199 (rd_i rfl hM4.1.k (it_t neg (rd_i rfl hM4.1.k (bd_i rfl))))), (cu3.tr cu4).bI (by omega), hM4.s792 e0⟩
  · have nn : ¬ nI O.length < 0 := nI_pos (by omega)
    obtain ⟨⟨hB1, hv1, hL1⟩, -, -, -, -, -, -, hS1⟩ := id hX1
    have hlt := hB1.lt
    have f2 : Fr x (fun k => k = 712) No No No 0 M1 (sI M1 712 x (gI M1 712 x + 1)) := (Fr.rf hv1 hL1).bI (Or.inl ⟨by omega, rfl⟩)
    have e712 : gI M1 712 x = nI (con E R W O S r (shD q S.2.2.2.1) (-1)).2.2.2.2.1 := hS1.2.1
    have hX2 : XI x (con E R W O S r (shD q S.2.2.2.1) (-1)).2.1 (con E R W O S r (shD q S.2.2.2.1) (-1)).2.2.1 F W (O ++ [(r, shD q S.2.2.2.1, -1, tw)]) T ((con E R W O S r (shD q S.2.2.2.1) (-1)).2.2.2.1, (con E R W O S r (shD q S.2.2.2.1) (-1)).2.2.2.2.1 + 1, (con E R W O S r (shD q S.2.2.2.1) (-1)).2.2.2.2.2) jW (jO - 1) (sI M1 712 x (gI M1 712 x + 1)) := hX1.frS f2 (fun k q => by omega) (fun _ q => q.elim) (fun _ q => q.elim) (by rw [e712]; exact hS1.s712)
    have ff : Fr x KX (AX x) (AX x) (AX x) (0 + (if jO = 0 then 26 else 0)) M (sI M1 712 x (gI M1 712 x + 1)) := (fr f1).tr (f2.mo (n' := 0) (Nat.le_refl _) (fun k q => by subst q; decide) (fun _ q => q.elim) (fun _ q => q.elim) (fun _ q => q.elim))
    have rn1 := run2 (clI_i e126 (it_f nn (rd_i rfl hB1.k (rd_i rfl hB1.k (bd_i rfl)))))
    generalize sI M1 712 x (gI M1 712 x + 1) = Mz at hX2 ff rn1
    obtain ⟨q', hq', hqp, -⟩ := shr.2 r q hq
    refine Op.chg (v := pI (nI O.length)) h (M1 := Mz) rn1 ff hX2 (fun hM1 => ?_) ?_ ?_
    · obtain ⟨M3, cu3, hM3, hnow, run⟩ := model hM1
      obtain ⟨M4, e199, cu4, hM4, -⟩ := (m_made (l := -1) hM3 aw hq shD_len hnow (by omega) hval).2 hcn
      have hM4 := hM4 tw
      have e0 : gI M4 792 (x + 12) + 1 = nI ((con E R W O S r (shD q S.2.2.2.1) (-1)).2.2.2.2.1 + 1) := by rw [hM4.2.2.2.2.2.2.2.2.1, nI_1]
      exact ⟨_, run (clI_i e199 (rd_i rfl hM4.1.k (it_f nn (rd_i rfl hM4.1.k (bd_i rfl))))), (cu3.tr cu4).bI (by omega), hM4.s792 e0⟩
    · refine aw_obj aw1 hq' (by rw [hqp]; exact shD_len) (fun p t v ht hv => (hval p t v (by rw [← hqp]; exact ht) hv).sh she) rfl ?_ rfl (aw1.2.2.2.2.1.mono (Nat.le_refl _) (by omega)) rfl ?_ rfl ?_
      · show (con E R W O S r (shD q S.2.2.2.1) (-1)).2.2.2.2.1 + 1 ≤ 100
        omega
      · show O.length + 1 = (con E R W O S r (shD q S.2.2.2.1) (-1)).2.2.2.2.1 + 1 + cntL T
        omega
      · omega
    · unfold pot
      rw [List.length_append]
      show (0 + if jO = 0 then 26 else 0) + 64 * (W.length + jW + O.length + jO + T.length) ≤ 64 * (W.length + jW + (O.length + 1) + (jO - 1) + T.length + 1)
      split <;> omega
end OPS
