/-! CALLS on records: becomes -/
theorem prK_f (p : Nat) (l : List TK) : prK p false l = l.filter (fun c => decide (c.1 ≠ p)) := by unfold prK; simp
theorem prK_t (p : Nat) (l : List TK) : prK p true l = (l.filter (fun c => decide (c.1 ≠ p))).map (mvK p) := by unfold prK; simp
theorem isO.put' {α : Type} {M : Mem} {x l base i a c : Nat} {P : α → Nat → Prop} {xs : List α} {q : α} (h : isO M x l (fun r b => P r b ∧ b ≠ a) xs) (hv : PIv base M) (hLI : LI M) (hi : i < xs.length) (hk : kd M a = c) (hc : 2 ≤ c ∧ c ≤ 10) (hx : x + 57 < a) (hP : P q a) :
    ∃ v M', ex 17 4 [pR (some l), pI (nI i), pR (some a)] M = some (some (pR v), M') ∧ LM M M' l ∧ PIv base M' ∧ (∀ P' : α → Nat → Prop, (∀ q b, x + 57 < b → P q b → P' q b) → isO M' x l P' (xs.set i q)) := by
  have h0 : isO M x l P xs := h.mono (fun _ z => z) (fun _ _ _ z => z.1)
  obtain ⟨v, M', e1, e2, e3, -, -, -, e4⟩ := h0.put hv hLI hi hk hc hx hP (fun j b hj hg hjl => by
    obtain ⟨b', g1, -, ⟨-, hne⟩, -⟩ := h.at (List.getElem?_eq_getElem hjl)
    rw [g1] at hg
    cases hg
    exact hne)
  exact ⟨v, M', e1, e2, e3, e4⟩
section OPR
variable {x : Nat} {E E' : List TE} {R R' : List TR} {F F' : List TF} {W W' : List TW} {O O' : List TO} {T T' : List TL} {S S' : TS} {jW jO jW' jO' n : Nat} {M M1 : Mem}
theorem m_drop {m k p : Nat} {g : Bool} {q : TR} (hM : MI m E R F W O T S M) (hq : R[k]? = some q) (hp : p < 2147483648) (hcs : ∀ c ∈ q.2.1, c.1 < 2147483648) : ∃ M2, ex 181 8 [pR (some m), pI (nI k), pI (nI p), pI (b32 g)] M = some (none, M2) ∧ CU m M M2 ∧ MI m E (R.set k (q.1, prK p g q.2.1, q.2.2)) F W O T S M2 := by
  obtain ⟨mB, mE, mR, -⟩ := id hM
  have hRl := mR.2.1
  have hk : k < R.length := (List.getElem?_eq_some_iff.mp hq).1
  obtain ⟨⟨z1, z2, z3⟩, ⟨z4, z5, z6⟩, z7, z8⟩ := mR.2.2.1 k q hq
  have hS0 : ShK m k p g q.2.1 0 M M := ⟨mB, CU.rf, UR.rf, rfl, fun _ _ => rfl, fun _ _ => rfl, fun _ _ => ⟨rfl, rfl, rfl, rfl⟩, fun c t hc => by simp [prK] at hc⟩
  obtain ⟨M', e1, s⟩ := m_drop_loop (g := g) (by omega) z4 hp hcs z5 z6 q.2.1.length 0 M (by omega) hS0
  obtain ⟨s0, s1, s2, s3, s4, s5, s6, s7⟩ := s
  rw [List.take_length] at s6 s7
  have hle := prK_le p g q.2.1
  refine ⟨wI M' (m + 10) k (nI (prK p g q.2.1).length), ?_, s1.wI (by omega), hM.ur (s2.wI (by omega)) (MR_set mR hq (by rw [gI_wI]; exact s3) ⟨⟨z1, ?_, fun p t ht => ?_⟩, ⟨by show (prK p g q.2.1).length ≤ 4; omega, ?_, fun c t ht => ?_⟩, ?_, z8⟩ (fun e he => ⟨?_, ?_, fun _ => ?_, fun p hp => ?_, fun c hc => ?_⟩))⟩
  · rw [tX12_dropChecks]
    exact e1
  · rw [aI_wI, up1_no (by omega), s4 5 (by decide)]; exact z2
  · rw [aI_wI, aJ_wI, up1_no (by omega), up1_no (by omega), s5 6 (by decide), s4 7 (by decide), s4 8 (by decide), s5 9 (by decide)]; exact z3 p t ht
  · rw [aI_wI, up1_at, up1_at]
  · rw [aI_wI, aJ_wI, up1_no (by omega), up1_no (by omega)]; exact s7 c t ht
  · rw [aI_wI, up1_no (by omega), s4 19 (by decide)]; exact z7
  · rw [aI_wI, up1_no (by omega), s4 5 (by decide)]
  · rw [aI_wI, up1_at, up1_no he, s4 10 (by decide)]
  · rw [aI_wI, up1_no (by omega), s4 19 (by decide)]
  · rw [aI_wI, aJ_wI, up1_no (by omega), up1_no (by omega), s5 6 (by decide), s4 7 (by decide), s4 8 (by decide), s5 9 (by decide)]
    exact ⟨rfl, rfl, rfl, rfl⟩
  · rw [aI_wI, aJ_wI, up1_no (by omega), up1_no (by omega)]
    exact s6 (4 * e + c) (by omega)
theorem m_becomes {m k p : Nat} {q : TR} {t : TP} {s o : Int32} (hM : MI m E R F W [] T S M) (hq : R[k]? = some q) (ht : q.1[p]? = some t) (hcs : ∀ c ∈ q.2.1, c.1 < 2147483648) (hs : isSrt E.length F.length s o) : ∃ M2, ex 183 6 [pR (some m), pI (nI k), pI (nI p), pI s, pI o] M = some (some (pI t.2.1), M2) ∧ CU m M M2 ∧ MI m E (R.set k (q.1.set p (t.1, s, nrm s o, stdV s 0), q.2.1.filter (fun c => decide (c.1 ≠ p)), q.2.2)) F W [] T S M2 := by
  obtain ⟨mB, mE, mR, mF, -, mO, -, -⟩ := id hM
  have hRl := mR.2.1
  have hk : k < R.length := (List.getElem?_eq_some_iff.mp hq).1
  have hp : p < q.1.length := (List.getElem?_eq_some_iff.mp ht).1
  obtain ⟨⟨z1, z2, z3⟩, -⟩ := mR.2.2.1 k q hq
  obtain ⟨t1, t2, t3, t4⟩ := z3 p t ht
  have d1 := (mb0 mO).mpr rfl
  obtain ⟨M1, e1, u1, hM1⟩ := m_drop (g := false) (p := p) hM hq (by omega) hcs
  rw [prK_f] at hM1
  have hq1 : (R.set k (q.1, q.2.1.filter (fun c => decide (c.1 ≠ p)), q.2.2))[k]? = some (q.1, q.2.1.filter (fun c => decide (c.1 ≠ p)), q.2.2) := by rw [List.getElem?_set, if_pos rfl, if_pos hk]
  obtain ⟨mB1, -, mR1, -⟩ := id hM1
  obtain ⟨⟨y1, y2, y3⟩, ⟨y4, y5, y6⟩, y7, y8⟩ := mR1.2.2.1 k _ hq1
  have hJ : 6 * k + p < 36 := by omega
  have run : ex 183 6 [pR (some m), pI (nI k), pI (nI p), pI s, pI o] M = some (some (pI t.2.1), wJ (wI (wI M1 (m + 7) (6 * k + p) s) (m + 8) (6 * k + p) (nrm s o)) (m + 9) (6 * k + p) (stdV s 0)) := by
    rw [tX12_becomes]
    refine rd_i rfl mB.k (clI_i (m_isPart mB mR hq hp) (it_f (by decide) (rd_i rfl mB.k (clI_i ((m_isSort mB mE mF).1 hs) (it_t (by decide) (rd_i rfl mB.k (it_t d1 (rd_i rfl mB.k (ix_m mB.a7 (m6 k p) (by omega) (by omega) (rd_i rfl mB.k (clV_i e1 (rd_i rfl mB1.k ?_))))))))))))
    rw [m6, t2]
    exact clV_i (m_setSort mB1 hJ) rfl
  have hMR : MR m (wJ (wI (wI M1 (m + 7) (6 * k + p) s) (m + 8) (6 * k + p) (nrm s o)) (m + 9) (6 * k + p) (stdV s 0)) ((R.set k (q.1, q.2.1.filter (fun c => decide (c.1 ≠ p)), q.2.2)).set k (q.1.set p (t.1, s, nrm s o, stdV s 0), q.2.1.filter (fun c => decide (c.1 ≠ p)), q.2.2)) := by
    refine MR_set mR1 hq1 (by simp only [gI_wI, gI_wJ]) ⟨⟨by rw [List.length_set]; exact y1, ?_, fun j r hr => ?_⟩, ⟨y4, ?_, fun c r hr => ?_⟩, ?_, y8⟩ (fun e he => ⟨?_, ?_, fun _ => ?_, fun j hj => ⟨?_, ?_, ?_, ?_⟩, fun c hc => ⟨?_, ?_, ?_, ?_⟩⟩)
    · simp only [aI_wI, aI_wJ, List.length_set]; rw [up1_no (by omega), up1_no (by omega)]; exact y2
    · simp only [aI_wI, aI_wJ, aJ_wI, aJ_wJ]
      simp only [up1_at, up1_no (show m + 6 ≠ m + 9 by omega), up1_no (show m + 7 ≠ m + 8 by omega), up1_no (show m + 8 ≠ m + 7 by omega)]
      rw [List.getElem?_set] at hr
      by_cases e : p = j
      · rw [if_pos e, if_pos hp] at hr
        cases hr
        subst e
        simp only [up1_at]
        exact ⟨(y3 p t ht).1, trivial, trivial, trivial⟩
      · rw [if_neg e] at hr
        simp only [up1_no (show 6 * k + j ≠ 6 * k + p by omega)]
        exact y3 j r hr
    · simp only [aI_wI, aI_wJ]; rw [up1_no (by omega), up1_no (by omega)]; exact y5
    · simp only [aI_wI, aI_wJ, aJ_wI, aJ_wJ]
      rw [up1_no (by omega), up1_no (by omega), up1_no (by omega), up1_no (by omega), up1_no (by omega), up1_no (by omega)]
      exact y6 c r hr
    · simp only [aI_wI, aI_wJ]; rw [up1_no (by omega), up1_no (by omega)]; exact y7
    · simp only [aI_wI, aI_wJ]; rw [up1_no (by omega), up1_no (by omega)]
    · simp only [aI_wI, aI_wJ]; rw [up1_no (by omega), up1_no (by omega)]
    · simp only [aI_wI, aI_wJ]; rw [up1_no (by omega), up1_no (by omega)]
    · simp only [aJ_wI, aJ_wJ]; rw [up1_no (by omega)]
    · simp only [aI_wI, aI_wJ]; rw [up1_no (by omega), up1_at, up1_no (by omega)]
    · simp only [aI_wI, aI_wJ]; rw [up1_at, up1_no (by omega), up1_no (by omega)]
    · simp only [aJ_wI, aJ_wJ]; rw [up1_at, up1_no (by omega)]
    · simp only [aI_wI, aI_wJ]; rw [up1_no (by omega), up1_no (by omega)]
    · simp only [aI_wI, aI_wJ]; rw [up1_no (by omega), up1_no (by omega)]
    · simp only [aJ_wI, aJ_wJ]; rw [up1_no (by omega)]
    · simp only [aJ_wI, aJ_wJ]; rw [up1_no (by omega)]
  rw [List.set_set] at hMR
  exact ⟨_, run, u1.tr (((CU.rf.wI (by omega)).wI (by omega)).wJ (by omega)), hM1.ur (((UR.rf.wI (by omega)).wI (by omega)).wJ (by omega)) hMR⟩
theorem op_becomes (h : Inv x E R F W O T S jW jO M) (e p s o : Int32) : Op x W O T jW jO M (fun M => ex 83 7 [pR (some x), pI e, pI p, pI s, pI o] M) (fun M => ex 183 6 [pR (some (x + 12)), pI e, pI p, pI s, pI o] M) := by
  obtain ⟨hX, hM, aw⟩ := id h
  obtain ⟨⟨hB, hv, hL⟩, hE, hR, hF, -, hO, -, -⟩ := id hX
  obtain ⟨mB, mE, mR, mF, -, mO, -, -⟩ := id hM
  have hRl := mR.2.1
  have hEl := mE.2.1
  have hFl := mF.2.1
  rcases oob_or e R.length (by omega) with ho | ⟨k, hk, rfl⟩
  · refine Op.keep h (v := pI (-1)) ?_ ?_
    · show ex 83 7 [pR (some x), pI e, pI p, pI s, pI o] M = _
      rw [tX11_becomes]
      exact rd_i rfl hB.k (clR_i (c_recAt_no hB hR ho) (it_t rfl rfl))
    · show ex 183 6 [pR (some (x + 12)), pI e, pI p, pI s, pI o] M = _
      rw [tX12_becomes]
      exact rd_i rfl mB.k (clI_i (m_isPart_no0 mB mR ho) (it_t rfl rfl))
  have hq : R[k]? = some R[k] := List.getElem?_eq_getElem hk
  generalize R[k] = q at hq
  obtain ⟨a, c108, hxa, hc, hcl, -⟩ := c_recAt hB hR hq
  obtain ⟨⟨z1, z2, z3⟩, ⟨z4, z5, z6⟩, z7⟩ := mR.2.2.1 k q hq
  rcases oob_or p q.1.length (by omega) with hp | ⟨j, hj, rfl⟩
  · refine Op.keep h (v := pI (-1)) ?_ ?_
    · show ex 83 7 [pR (some x), pI (nI k), pI p, pI s, pI o] M = _
      rw [tX11_becomes]
      exact rd_i rfl hB.k (clR_i c108 (it_f (fun q => nomatch q) (rd_i rfl hc.1 (clR_i (c_partAt_no hc hp) (it_t rfl rfl)))))
    · show ex 183 6 [pR (some (x + 12)), pI (nI k), pI p, pI s, pI o] M = _
      rw [tX12_becomes]
      exact rd_i rfl mB.k (clI_i (m_isPart_no mB mR hq hp) (it_t rfl rfl))
  have ht : q.1[j]? = some q.1[j] := List.getElem?_eq_getElem hj
  generalize q.1[j] = t at ht
  obtain ⟨kp, c65, hkx, hcp, -⟩ := c_partAt hc ht
  have hcs : ∀ c ∈ q.2.1, c.1 < q.1.length := fun c hcm => by
    obtain ⟨i, hi⟩ := List.getElem?_of_mem hcm
    obtain ⟨t', w1, -⟩ := (aw.1 k q hq).2 i c hi
    exact (List.getElem?_eq_some_iff.mp w1).1
  by_cases hs : isSrt E.length F.length s o
  · by_cases ho : O = []
    · have c0 := (ob0 hO).mpr ho
      obtain ⟨M8, e67, cR8, f1⟩ := c_dropChecks (p := j) hc hv hL (by omega) (fun c hm => by have := hcs c hm; omega)
      have hB8 : XB x M8 := hB.fr f1 (fun _ _ => id) (fun _ _ => id)
      have hcp8 := hcp.fr f1 (fun _ _ => id)
      have hT := hB8.lt
      have hkpl := lt_of_kd f1.v hcp8.1 (by omega)
      have f0 : Fr x No No No No (0 + 1) M8 (nO M8 8 4) := (Fr.rf f1.v f1.li).bO (by omega) (by omega)
      have kn : kd (nO M8 8 4) (mT M8) = 8 := by rw [kd_nO, up1_at]
      have hcpn := hcp8.fr f0 (fun _ _ => id)
      obtain ⟨Mc, e63, f2, cn, o1, -, -⟩ := part_init (nm := t.1) (std := 0) (s := s) (o := o) f0 (Nat.le_refl _) kn
      have hcR2 := cR8.fr f2 (fun _ _ => id) ⟨id, id⟩
      have lP : isO Mc x (a + 1) (fun r b => cP Mc r b ∧ b ≠ mT M8) q.1 := cR8.2.2.2.2.1.mono (f2.ls id) (fun r b _ z => ⟨z.fr f2 (fun _ _ => id), fun e => by have := lt_of_kd f1.v z.1 (by omega); omega⟩)
      obtain ⟨v, M1, e17, lm, v1, lP1⟩ := lP.put' (q := (t.1, s, nrm s o, stdV s 0)) (i := j) f2.v f2.li hj cn.1 (by omega) (by omega) cn
      have f3 : Fr x No (fun l => l = a + 1) No No (0 + 24) Mc M1 := (Fr.rf f2.v f2.li).bL lm v1 (Or.inl rfl)
      have fT : Fr x No (fun l => l = a + 1 ∨ l = a + 2) No No 25 M M1 := (((f1.mo (L' := fun l => l = a + 1 ∨ l = a + 2) (Nat.le_refl _) (fun _ => id) (fun _ => Or.inr) (fun _ => id) (fun _ => id)).tr (f2.mo (Nat.le_refl _) (fun _ => id) (fun _ q => q.elim) (fun _ => id) (fun _ => id))).tr (f3.mo (Nat.le_refl _) (fun _ => id) (fun _ => Or.inl) (fun _ => id) (fun _ => id))).mo (by omega) (fun _ => id) (fun _ => id) (fun _ => id) (fun _ => id)
      have hcp1 := hcp.fr fT (fun _ _ => id)
      obtain ⟨cn1, hR1⟩ := c_rset (q' := (q.1.set j (t.1, s, nrm s o, stdV s 0), q.2.1.filter (fun c => decide (c.1 ≠ j)), q.2.2)) hv hc hxa fT (fun _ _ => id) rfl (lP1 _ (fun r b _ z => z.fr f3 (fun _ _ => id))) (hcR2.2.2.2.2.2.mono (f3.ls (fun q => by omega)) (fun r b _ z => z.fr f3 (fun _ _ => id))) hcl
      have hX1 := hX.frR fT (fun _ q => q.elim) (fun l q => Or.inr ⟨by omega, by rcases q with q | q; exact Or.inl (by rw [q, Nat.add_sub_cancel]; exact hc.1); exact Or.inr ⟨by rw [q, Nat.add_sub_cancel]; exact hc.1, by rw [q, show a + 2 - 1 = a + 1 by omega]; exact hc.2.2.2.2.1.k⟩⟩) hR1
      refine Op.chg (R' := R.set k (q.1.set j (t.1, s, nrm s o, stdV s 0), q.2.1.filter (fun c => decide (c.1 ≠ j)), q.2.2)) (v := pI t.2.1) h (M1 := M1) ?_ (fT.mo (n' := 25) (Nat.le_refl _) (fun _ q => q.elim) (fun l q => by omega) (fun _ q => q.elim) (fun _ q => q.elim)) hX1 (fun hM1 => ?_) ?_ (by omega)
      · show ex 83 7 [pR (some x), pI (nI k), pI (nI j), pI s, pI o] M = _
        rw [tX11_becomes]
        refine rd_i rfl hB.k (clR_i c108 (it_f (fun q => nomatch q) (rd_i rfl hc.1 (clR_i c65 (it_f (fun q => nomatch q) (rd_i rfl hB.k (clI_i ((c_isSort hB hE hF).1 hs) (it_t (by decide) (rd_i rfl hB.k (it_t c0 (rd_i rfl hc.1 (clV_i e67 (rd_i rfl cR8.1 (bd_i (rd_i rfl hcpn.1 (rd_i rfl kn ?_))))))))))))))))
        rw [hcpn.2.1]
        refine clV_i e63 (rd_i cR8.2.1 hcR2.2.2.2.2.1.k (clR_i e17 (rd_i rfl hcp1.1 ?_)))
        rw [hcp1.2.2.1]
      · subst ho
        exact m_becomes hM1 hq ht (fun c hm => by have := hcs c hm; omega) hs
      · subst ho
        refine awR aw (wfR_set aw.1 ⟨fun p' t' ht' => ?_, fun c' t' ht' => ?_⟩) (by rw [List.length_set]; omega) (cntR_set hq rfl)
        · rw [List.getElem?_set] at ht'
          by_cases e : j = p'
          · rw [if_pos e, if_pos hj] at ht'
            cases ht'
            exact ⟨srtOK_of (by omega) (by omega) hs, stdOK_V s 0⟩
          · rw [if_neg e] at ht'
            exact (aw.1 k q hq).1 p' t' ht'
        · have hm := List.mem_of_getElem? ht'
          rw [List.mem_filter] at hm
          obtain ⟨i, hi⟩ := List.getElem?_of_mem hm.1
          obtain ⟨r, w1, w2⟩ := (aw.1 k q hq).2 i t' hi
          refine ⟨r, ?_, w2⟩
          rw [List.getElem?_set, if_neg (fun z => of_decide_eq_true hm.2 z.symm)]
          exact w1
    · refine Op.keep h (v := pI (-2)) ?_ ?_
      · show ex 83 7 [pR (some x), pI (nI k), pI (nI j), pI s, pI o] M = _
        rw [tX11_becomes]
        exact rd_i rfl hB.k (clR_i c108 (it_f (fun q => nomatch q) (rd_i rfl hc.1 (clR_i c65 (it_f (fun q => nomatch q) (rd_i rfl hB.k (clI_i ((c_isSort hB hE hF).1 hs) (it_t (by decide) (rd_i rfl hB.k (it_f (fun q => ho ((ob0 hO).mp q)) rfl))))))))))
      · show ex 183 6 [pR (some (x + 12)), pI (nI k), pI (nI j), pI s, pI o] M = _
        rw [tX12_becomes]
        exact rd_i rfl mB.k (clI_i (m_isPart mB mR hq hj) (it_f (by decide) (rd_i rfl mB.k (clI_i ((m_isSort mB mE mF).1 hs) (it_t (by decide) (rd_i rfl mB.k (it_f (fun q => ho ((mb0 mO).mp q)) rfl)))))))
  · refine Op.keep h (v := pI (-1)) ?_ ?_
    · show ex 83 7 [pR (some x), pI (nI k), pI (nI j), pI s, pI o] M = _
      rw [tX11_becomes]
      exact rd_i rfl hB.k (clR_i c108 (it_f (fun q => nomatch q) (rd_i rfl hc.1 (clR_i c65 (it_f (fun q => nomatch q) (rd_i rfl hB.k (clI_i ((c_isSort hB hE hF).2 hs) (it_f (not_not_intro rfl) rfl))))))))
    · show ex 183 6 [pR (some (x + 12)), pI (nI k), pI (nI j), pI s, pI o] M = _
      rw [tX12_becomes]
      exact rd_i rfl mB.k (clI_i (m_isPart mB mR hq hj) (it_f (by decide) (rd_i rfl mB.k (clI_i ((m_isSort mB mE mF).2 hs) (it_f (not_not_intro rfl) rfl)))))
end OPR
