/-! STARTS: the class's records, the model; about, named, work -/
section OPS
variable {x : Nat} {E E' : List TE} {R R' : List TR} {F F' : List TF} {W W' : List TW} {O O' : List TO} {T T' : List TL} {S S' : TS} {jW jO jW' jO' n : Nat} {M M' M1 : Mem}
/-- what a load has at hand: pile, place, come, now -/
def AtH (m : Nat) (M M' : Mem) : Prop := aI M' (m + 42) = aI M (m + 42) ∧ aI M' (m + 43) = aI M (m + 43) ∧ aJ M' (m + 45) = aJ M (m + 45) ∧ aJ M' (m + 29) = aJ M (m + 29)
theorem AtH.rf {m : Nat} : AtH m M M := ⟨rfl, rfl, rfl, rfl⟩
theorem AtH.tr {m : Nat} {M2 : Mem} (h : AtH m M M1) (g : AtH m M1 M2) : AtH m M M2 := ⟨g.1.trans h.1, g.2.1.trans h.2.1, g.2.2.1.trans h.2.2.1, g.2.2.2.trans h.2.2.2⟩
theorem AtH.bI {m k a : Nat} {v : Int32} (h : AtH m M M1) : AtH m M (sI M1 k a v) := ⟨by rw [aI_sI]; exact h.1, by rw [aI_sI]; exact h.2.1, by rw [aJ_sI]; exact h.2.2.1, by rw [aJ_sI]; exact h.2.2.2⟩
theorem AtH.bJ {m k a : Nat} {v : Int64} (h : AtH m M M1) : AtH m M (sJ M1 k a v) := ⟨by rw [aI_sJ]; exact h.1, by rw [aI_sJ]; exact h.2.1, by rw [aJ_sJ]; exact h.2.2.1, by rw [aJ_sJ]; exact h.2.2.2⟩
theorem AtH.wI {m j p : Nat} {v : Int32} (h : AtH m M M1) (h1 : j ≠ 42) (h2 : j ≠ 43) : AtH m M (wI M1 (m + j) p v) := ⟨by rw [aI_wI, up1_no (by omega)]; exact h.1, by rw [aI_wI, up1_no (by omega)]; exact h.2.1, by rw [aJ_wI]; exact h.2.2.1, by rw [aJ_wI]; exact h.2.2.2⟩
theorem AtH.wJ {m j p : Nat} {v : Int64} (h : AtH m M M1) (h1 : j ≠ 45) (h2 : j ≠ 29) : AtH m M (wJ M1 (m + j) p v) := ⟨by rw [aI_wJ]; exact h.1, by rw [aI_wJ]; exact h.2.1, by rw [aJ_wJ, up1_no (by omega)]; exact h.2.2.1, by rw [aJ_wJ, up1_no (by omega)]; exact h.2.2.2⟩
theorem stR_eq {r : Nat} {q : TR} (hq : R[r]? = some q) : stR R S r = if q.2.2 = 0 then (R.set r (q.1, q.2.1, 1), ntS S (nI r)) else (R, S) := by
  unfold stR
  rw [hq]
theorem stE_eq {e : Nat} {q : TE} (hq : E[e]? = some q) : stE E S e = if q.2.2.1 = 0 then (if q.2.2.2 = 0 then (if q.2.1 = 0 then (0, E.set e (q.1, q.2.1, 1, q.2.2.2), ntS S (nI (10 + e))) else (9, E.set e (q.1, q.2.1, q.2.2.1, 1), S)) else (10, E, S)) else (0, E, S) := by
  unfold stE
  rw [hq]
theorem c_startR {r a : Nat} {q : TR} (hX : XI x E R F W O T S jW jO M) (hq : R[r]? = some q) (ha : ex 108 2 [pR (some x), pI (nI r)] M = some (some (pR (some a)), M)) (hS : S.2.2.1.length = cntE E + cntR R) (hE4 : E.length ≤ 4) (hR6 : R.length ≤ 6) : ∃ M', ex 116 3 [pR (some x), pI (nI r), pR (some a)] M = some (none, M') ∧ XI x E (stR R S r).1 F W O T (stR R S r).2 jW jO M' ∧ Fr x (fun k => k = 578 ∨ k = 715) No (fun d => d = x + 6) No 0 M M' := by
  obtain ⟨⟨hB, hv, hL⟩, -, hR, -, -, -, -, -⟩ := id hX
  obtain ⟨a', c108, hxa, hc, hcl, -⟩ := c_recAt hB hR hq
  rw [c108] at ha
  have ha : a' = a := by injection ha with ha; injection ha with ha; injection ha with ha; injection ha with ha; injection ha with ha; injection ha with ha; injection ha
  subst ha
  obtain ⟨c1, c2, c3, c4, c5, c6⟩ := id hc
  rw [stR_eq hq]
  by_cases h1 : q.2.2 = 0
  · rw [if_pos h1]
    have f : Fr x (fun k => k = 578) No No No 0 M (sI M 578 a' 1) := (Fr.rf hv hL).bI (Or.inl ⟨by omega, rfl⟩)
    have cn : cR x (sI M 578 a' 1) (q.1, q.2.1, 1) a' := by
      refine ⟨c1, c2, c3, ?_, c5.mono (f.ls id) (fun q a _ h => h.fr f (by decide)), c6.mono (f.ls id) (fun q a _ h => h.fr f (by decide))⟩
      rw [gI_sI, up2_at]
    have hR1 : XR x (sI M 578 a' 1) (R.set r (q.1, q.2.1, 1)) := hcl _ _ (f.ls id) cn (fun q' b hne hb hr => by
      obtain ⟨d1, d2, d3, d4, d5, d6⟩ := hr
      exact ⟨d1, d2, d3, by rw [gI_sI, up2_no hne]; exact d4, d5.mono (f.ls id) (fun q a _ h => h.fr f (by decide)), d6.mono (f.ls id) (fun q a _ h => h.fr f (by decide))⟩)
    have hX1 := hX.frR f (fun k q => by omega) (fun l q => q.elim) hR1
    have up := cntR_up (q' := (q.1, q.2.1, 1)) hq h1 rfl
    have le1 := cntR_le (R.set r (q.1, q.2.1, 1))
    have le2 := cntE_le E
    rw [List.length_set] at le1
    obtain ⟨M2, e118, hX2, f2⟩ := c_note (c := nI r) hX1 (by omega)
    refine ⟨M2, ?_, hX2, ((f.mo (n' := 0) (Nat.le_refl _) (fun k q => Or.inl q) (fun _ => id) (fun _ q => q.elim) (fun _ => id)).tr (f2.mo (n' := 0) (Nat.le_refl _) (fun k q => Or.inr q) (fun _ => id) (fun _ => id) (fun _ => id)))⟩
    rw [tX11_startRecord]
    exact rd_i rfl c1 (it_t (c4.trans h1) (rd_i rfl c1 (zo_i (Or.inr rfl) (bd_i (rd_i rfl hX1.1.1.k (clV_i e118 rfl))))))
  · rw [if_neg h1]
    refine ⟨M, ?_, hX, Fr.rf hv hL⟩
    rw [tX11_startRecord]
    exact rd_i rfl c1 (it_f (fun z => h1 (c4.symm.trans z)) rfl)
/-- who started is noted: the model -/
theorem MI_note {m : Nat} {c : Int32} (h : MI m E R F W O T S M) : MI m E R F W O T (ntS S c) (sI (wI M (m + 21) S.2.2.1.length c) 798 m (nI S.2.2.1.length + 1)) ∧ CU m M (sI (wI M (m + 21) S.2.2.1.length c) 798 m (nI S.2.2.1.length + 1)) := by
  obtain ⟨s1, s2, s3, s4, s5, s6, s7, s8⟩ := h.2.2.2.2.2.2.2
  have u : US m M (sI (wI M (m + 21) S.2.2.1.length c) 798 m (nI S.2.2.1.length + 1)) := by
    refine ⟨⟨rfl, rfl, rfl⟩, fun k hk => ?_, fun i hi => ?_, fun i hi => ?_⟩
    · have : ∀ k ∈ [768, 773, 784, 793, 791, 813], k ≠ 798 := by decide
      rw [gI_sI, gI_wI, up2_ne (this k hk)]
    · rw [aI_sI, aI_wI, up1_no (by omega)]
    · rw [aJ_sI, aJ_wI]
  refine ⟨h.us u ⟨?_, ?_, ?_, fun i d hd => ?_, fun i hi => ?_, ⟨?_, ?_, ?_, ?_, ?_⟩, ?_, ?_⟩, (CU.rf.wI (by omega)).bI (by omega)⟩
  · rw [gI_sI, gI_wI, up2_ne (by omega)]; exact s1
  · rw [gI_sI, gI_wI, up2_ne (by omega)]; exact s2
  · rw [gI_sI, up2_at, nt_len, nI_1]
  · have hd : (S.2.2.1 ++ [c])[i]? = some d := hd
    rw [aI_sI, aI_wI, up1_at]
    by_cases q : i < S.2.2.1.length
    · rw [List.getElem?_append_left q] at hd
      rw [up1_no (by omega)]
      exact s4 i d hd
    · rw [List.getElem?_append_right (by omega)] at hd
      have : i - S.2.2.1.length < 1 := (List.getElem?_eq_some_iff.mp hd).1
      rw [show i - S.2.2.1.length = 0 by omega] at hd
      cases hd
      rw [show i = S.2.2.1.length by omega, up1_at]
  · rw [aJ_sI, aJ_wI]; exact s5 i hi
  · rw [gI_sI, gI_wI, up2_ne (by omega)]; exact s6.1
  · rw [gI_sI, gI_wI, up2_ne (by omega)]; exact s6.2.1
  · rw [gI_sI, gI_wI, up2_ne (by omega)]; exact s6.2.2.1
  · rw [gI_sI, gI_wI, up2_ne (by omega)]; exact s6.2.2.2.1
  · rw [gI_sI, gI_wI, up2_ne (by omega)]; exact s6.2.2.2.2
  · rw [gI_sI, gI_wI, up2_ne (by omega)]; exact s7
  · rw [gI_sI, gI_wI, up2_ne (by omega)]; exact s8
/-- a flag of the model's that says who has started, or failed -/
theorem MI_flE {m e j : Nat} {q q' : TE} (h : MI m E R F W O T S M) (hq : E[e]? = some q) (h0 : q'.1 = q.1 ∧ q'.2.1 = q.2.1) (hj : (j = 19 ∧ q'.2.2.1 = 1 ∧ q'.2.2.2 = q.2.2.2) ∨ (j = 20 ∧ q'.2.2.1 = q.2.2.1 ∧ q'.2.2.2 = 1)) : MI m (E.set e q') R F W O T S (wI M (m + j) (if j = 19 then 10 + e else e) 1) ∧ CU m M (wI M (m + j) (if j = 19 then 10 + e else e) 1) := by
  have mE := h.2.1
  have he : e < E.length := (List.getElem?_eq_some_iff.mp hq).1
  have he4 := mE.2.1
  obtain ⟨z1, z2, z3, z4, z5, z6⟩ := mE.2.2.1 e q hq
  rcases hj with ⟨rfl, h1, h2⟩ | ⟨rfl, h1, h2⟩
  · rw [if_pos rfl]
    refine ⟨h.ue ⟨⟨rfl, rfl, rfl⟩, fun _ _ => rfl, fun i h5 h19 h20 => ⟨?_, rfl⟩, fun r hr => ?_⟩ (ME_set mE hq rfl ⟨by rw [h0.1]; exact z1, ?_, fun c r hr => ?_, ⟨?_, by rw [h0.2]; exact z4.2⟩, ⟨?_, Or.inr h1⟩, ⟨?_, by rw [h2]; exact z6.2⟩⟩ (fun i hi => ⟨?_, fun c hc => ⟨rfl, ?_⟩, ?_, ?_, ?_⟩)), CU.rf.wI (by omega)⟩
    · rw [aI_wI, up1_no (by omega)]
    · rw [aI_wI, up1_at, up1_no (by omega)]
    · rw [aI_wI, up1_no (by omega), h0.1]; exact z2
    · rw [aJ_wI, aI_wI, up1_no (by omega)]; exact z3 c r (by rw [← h0.1]; exact hr)
    · rw [aI_wI, up1_no (by omega), h0.2]; exact z4.1
    · rw [aI_wI, up1_at, up1_at]; exact h1.symm
    · rw [aI_wI, up1_no (by omega), h2]; exact z6.1
    · rw [aI_wI, up1_no (by omega)]
    · rw [aI_wI, up1_no (by omega)]
    · rw [aI_wI, up1_no (by omega)]
    · rw [aI_wI, up1_at, up1_no (by omega)]
    · rw [aI_wI, up1_no (by omega)]
  · rw [if_neg (by decide)]
    refine ⟨h.ue ⟨⟨rfl, rfl, rfl⟩, fun _ _ => rfl, fun i h5 h19 h20 => ⟨?_, rfl⟩, fun r hr => ?_⟩ (ME_set mE hq rfl ⟨by rw [h0.1]; exact z1, ?_, fun c r hr => ?_, ⟨?_, by rw [h0.2]; exact z4.2⟩, ⟨?_, by rw [h1]; exact z5.2⟩, ⟨?_, Or.inr h2⟩⟩ (fun i hi => ⟨?_, fun c hc => ⟨rfl, ?_⟩, ?_, ?_, ?_⟩)), CU.rf.wI (by omega)⟩
    · rw [aI_wI, up1_no (by omega)]
    · rw [aI_wI, up1_no (by omega)]
    · rw [aI_wI, up1_no (by omega), h0.1]; exact z2
    · rw [aJ_wI, aI_wI, up1_no (by omega)]; exact z3 c r (by rw [← h0.1]; exact hr)
    · rw [aI_wI, up1_no (by omega), h0.2]; exact z4.1
    · rw [aI_wI, up1_no (by omega), h1]; exact z5.1
    · rw [aI_wI, up1_at, up1_at]; exact h2.symm
    · rw [aI_wI, up1_no (by omega)]
    · rw [aI_wI, up1_no (by omega)]
    · rw [aI_wI, up1_no (by omega)]
    · rw [aI_wI, up1_no (by omega)]
    · rw [aI_wI, up1_at, up1_no hi]
theorem m_startE2 {m e : Nat} {q : TE} (h : MI m E R F W O T S M) (hq : E[e]? = some q) (hS : S.2.2.1.length = cntE E + cntR R) : ∃ M', ex 187 2 [pR (some m), pI (nI (10 + e))] M = some (some (pI (stE E S e).1), M') ∧ CU m M M' ∧ MI m (stE E S e).2.1 R F W O T (stE E S e).2.2 M' ∧ AtH m M M' := by
  obtain ⟨mB, mE, mR, -, -, -, -, mS⟩ := id h
  have he : e < E.length := (List.getElem?_eq_some_iff.mp hq).1
  have he4 := mE.2.1
  have hr6 := mR.2.1
  obtain ⟨z1, z2, z3, z4, z5, z6⟩ := mE.2.2.1 e q hq
  have e10 : nI (10 + e) - 10 = nI e := nI_10 e
  have n10 : ¬ nI (10 + e) < 10 := by
    rw [I32_lt, nI_toInt (by omega)]
    have : (10 : Int32).toInt = 10 := rfl
    omega
  rw [stE_eq hq, tX12_start]
  by_cases h1 : q.2.2.1 = 0
  · rw [if_pos h1]
    by_cases h2 : q.2.2.2 = 0
    · rw [if_pos h2]
      by_cases h3 : q.2.1 = 0
      · rw [if_pos h3]
        have up := cntE_up (q' := (q.1, q.2.1, 1, q.2.2.2)) hq h1 rfl
        have le1 := cntE_le (E.set e (q.1, q.2.1, 1, q.2.2.2))
        have le2 := cntR_le R
        rw [List.length_set] at le1
        obtain ⟨h', cu⟩ := MI_flE (q' := (q.1, q.2.1, 1, q.2.2.2)) h hq ⟨rfl, rfl⟩ (Or.inl ⟨rfl, rfl, rfl⟩)
        rw [if_pos rfl] at h' cu
        obtain ⟨h2', cu2⟩ := MI_note (c := nI (10 + e)) h'
        refine ⟨_, ?_, cu.tr cu2, h2', (((AtH.rf.wI (by omega) (by omega)).wI (by omega) (by omega)).bI)⟩
        refine rd_i rfl mB.k (ix_m (n := 10 + e) mB.a19 rfl (by omega) (by omega) (it_t (z5.1.trans h1) (it_f n10 (rd_i rfl mB.k (ix_m (n := e) mB.a20 e10 (by omega) (by omega) (it_t (z6.1.trans h2) (it_f n10 (rd_i rfl mB.k (ix_m (n := e) mB.a4 e10 (by omega) (by omega) (it_t (z4.1.trans h3) (rd_i rfl mB.k (ix_m (n := 10 + e) mB.a19 rfl (by omega) (by omega) (zo_i (Or.inr rfl) (bd_i (rd_i rfl mB.k (rd_i rfl mB.k (ix_m (n := S.2.2.1.length) mB.a21 mS.2.2.1 (by omega) (by omega) (bd_i (rd_i rfl mB.k (rd_i rfl mB.k (bd_i ?_)))))))))))))))))))))
        rw [show gI (wI (wI M (m + 19) (10 + e) 1) (m + 21) S.2.2.1.length (nI (10 + e))) 798 m = nI S.2.2.1.length from mS.2.2.1]
      · rw [if_neg h3]
        obtain ⟨h', cu⟩ := MI_flE (q' := (q.1, q.2.1, q.2.2.1, 1)) h hq ⟨rfl, rfl⟩ (Or.inr ⟨rfl, rfl, rfl⟩)
        rw [if_neg (by decide)] at h' cu
        refine ⟨_, ?_, cu, h', AtH.rf.wI (by omega) (by omega)⟩
        exact rd_i rfl mB.k (ix_m (n := 10 + e) mB.a19 rfl (by omega) (by omega) (it_t (z5.1.trans h1) (it_f n10 (rd_i rfl mB.k (ix_m (n := e) mB.a20 e10 (by omega) (by omega) (it_t (z6.1.trans h2) (it_f n10 (rd_i rfl mB.k (ix_m (n := e) mB.a4 e10 (by omega) (by omega) (it_f (fun z => h3 (z4.1.symm.trans z)) (rd_i rfl mB.k (ix_m (n := e) mB.a20 e10 (by omega) (by omega) (zo_i (Or.inr rfl) (bd_i rfl)))))))))))))) 
    · rw [if_neg h2]
      refine ⟨M, ?_, CU.rf, h, AtH.rf⟩
      exact rd_i rfl mB.k (ix_m (n := 10 + e) mB.a19 rfl (by omega) (by omega) (it_t (z5.1.trans h1) (it_f n10 (rd_i rfl mB.k (ix_m (n := e) mB.a20 e10 (by omega) (by omega) (it_f (fun z => h2 (z6.1.symm.trans z)) rfl))))))
  · rw [if_neg h1]
    refine ⟨M, ?_, CU.rf, h, AtH.rf⟩
    exact rd_i rfl mB.k (ix_m (n := 10 + e) mB.a19 rfl (by omega) (by omega) (it_f (fun z => h1 (z5.1.symm.trans z)) rfl))
theorem m_startE {m e : Nat} {q : TE} (h : MI m E R F W O T S M) (hq : E[e]? = some q) (hS : S.2.2.1.length = cntE E + cntR R) : ∃ M', ex 187 2 [pR (some m), pI (nI (10 + e))] M = some (some (pI (stE E S e).1), M') ∧ CU m M M' ∧ MI m (stE E S e).2.1 R F W O T (stE E S e).2.2 M' := by
  obtain ⟨M', e1, e2, e3, -⟩ := m_startE2 h hq hS
  exact ⟨M', e1, e2, e3⟩
theorem m_startR2 {m r : Nat} {q : TR} (h : MI m E R F W O T S M) (hq : R[r]? = some q) (hS : S.2.2.1.length = cntE E + cntR R) : ∃ M', ex 187 2 [pR (some m), pI (nI r)] M = some (some (pI 0), M') ∧ CU m M M' ∧ MI m E (stR R S r).1 F W O T (stR R S r).2 M' ∧ AtH m M M' := by
  obtain ⟨mB, mE, mR, -, -, -, -, mS⟩ := id h
  have hr : r < R.length := (List.getElem?_eq_some_iff.mp hq).1
  have he4 := mE.2.1
  have hr6 := mR.2.1
  obtain ⟨z1, z2, z3, z4⟩ := mR.2.2.1 r q hq
  have n10 : nI r < 10 := nI_lt (b := 10) (by omega) (by decide)
  rw [stR_eq hq, tX12_start]
  by_cases h1 : q.2.2 = 0
  · rw [if_pos h1]
    have up := cntR_up (q' := (q.1, q.2.1, 1)) hq h1 rfl
    have le1 := cntR_le (R.set r (q.1, q.2.1, 1))
    have le2 := cntE_le E
    rw [List.length_set] at le1
    have h' : MI m E (R.set r (q.1, q.2.1, 1)) F W O T S (wI M (m + 19) r 1) := by
      refine h.ur ⟨⟨rfl, rfl, rfl⟩, fun _ _ => rfl, fun i h5 h19 => ⟨?_, rfl⟩, fun i hi => ?_⟩ ?_
      · rw [aI_wI, up1_no (by omega)]
      · rw [aI_wI, up1_at, up1_no (by omega)]
      · obtain ⟨y1, y2, y3, y4⟩ := mR
        unfold MR
        simp only [gI_wI, aI_wI, aJ_wI]
        simp only [up1_at, up1_no (show m + 5 ≠ m + 19 by omega), up1_no (show m + 7 ≠ m + 19 by omega), up1_no (show m + 8 ≠ m + 19 by omega), up1_no (show m + 10 ≠ m + 19 by omega), up1_no (show m + 11 ≠ m + 19 by omega), up1_no (show m + 12 ≠ m + 19 by omega)]
        refine ⟨by rw [List.length_set]; exact y1, by rw [List.length_set]; exact y2, fun i p hp => ?_, fun i hi1 hi2 => ?_⟩
        · rw [List.getElem?_set] at hp
          by_cases c : r = i
          · subst c
            rw [if_pos rfl, if_pos hr] at hp
            cases hp
            exact ⟨z1, z2, up1_at, Or.inr rfl⟩
          · rw [if_neg c] at hp
            rw [up1_no (fun z => c z.symm)]
            exact y3 i p hp
        · rw [List.length_set] at hi1
          rw [up1_no (by omega)]
          exact y4 i hi1 hi2
    obtain ⟨h2', cu2⟩ := MI_note (c := nI r) h'
    refine ⟨_, ?_, (CU.rf.wI (by omega)).tr cu2, h2', (((AtH.rf.wI (by omega) (by omega)).wI (by omega) (by omega)).bI)⟩
    refine rd_i rfl mB.k (ix_m (n := r) mB.a19 rfl (by omega) (by omega) (it_t (z3.trans h1) (it_t n10 (it_t n10 (rd_i rfl mB.k (ix_m (n := r) mB.a19 rfl (by omega) (by omega) (zo_i (Or.inr rfl) (bd_i (rd_i rfl mB.k (rd_i rfl mB.k (ix_m (n := S.2.2.1.length) mB.a21 mS.2.2.1 (by omega) (by omega) (bd_i (rd_i rfl mB.k (rd_i rfl mB.k (bd_i ?_)))))))))))))))
    rw [show gI (wI (wI M (m + 19) r 1) (m + 21) S.2.2.1.length (nI r)) 798 m = nI S.2.2.1.length from mS.2.2.1]
  · rw [if_neg h1]
    refine ⟨M, ?_, CU.rf, h, AtH.rf⟩
    exact rd_i rfl mB.k (ix_m (n := r) mB.a19 rfl (by omega) (by omega) (it_f (fun z => h1 (z3.symm.trans z)) rfl))
theorem m_startR {m r : Nat} {q : TR} (h : MI m E R F W O T S M) (hq : R[r]? = some q) (hS : S.2.2.1.length = cntE E + cntR R) : ∃ M', ex 187 2 [pR (some m), pI (nI r)] M = some (some (pI 0), M') ∧ CU m M M' ∧ MI m E (stR R S r).1 F W O T (stR R S r).2 M' := by
  obtain ⟨M', e1, e2, e3, -⟩ := m_startR2 h hq hS
  exact ⟨M', e1, e2, e3⟩
end OPS
