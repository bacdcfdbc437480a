/-! CALLS on records: check -/
section OPR
variable {x : Nat} {E E' : List TE} {R R' : List TR} {F F' : List TF} {W W' : List TW} {O O' : List TO} {T T' : List TL} {S S' : TS} {jW jO jW' jO' n : Nat} {M M1 : Mem}
theorem ne4 {n : Nat} (h : n < 4) : ¬ nI n = 4 := fun q => by
  have := nI_inj (b := 4) (by omega) (by omega) q
  omega
set_option maxHeartbeats 4000000 in
theorem m_newCheck {m k p : Nat} {q : TR} {t : TP} {kd0 : Int32} {va vb : Int64} (hM : MI m E R F W [] T S M) (hq : R[k]? = some q) (hp : q.1[p]? = some t) (h4 : q.2.1.length < 4) (hck : chkD kd0 t.2.1 = true) : ∃ M2, ex 185 9 [pR (some m), pI (nI k), pI (nI p), pI kd0, pJ va, pJ vb] M = some (some (pI (nI (q.2.1.length + 1))), M2) ∧ CU m M M2 ∧ MI m E (R.set k (q.1, q.2.1 ++ [(p, kd0, va, vb)], q.2.2)) F W [] T S M2 := by
  obtain ⟨mB, mE, mR, mF, -, mO, -, -⟩ := id hM
  have hRl := mR.2.1
  have hk : k < R.length := (List.getElem?_eq_some_iff.mp hq).1
  have hpl : p < q.1.length := (List.getElem?_eq_some_iff.mp hp).1
  obtain ⟨⟨z1, z2, z3⟩, ⟨z4, z5, z6⟩, z7, z8⟩ := mR.2.2.1 k q hq
  obtain ⟨t1, t2, t3, t4⟩ := z3 p t hp
  have d1 := (mb0 mO).mpr rfl
  have hJ : 4 * k + q.2.1.length < 24 := by omega
  generalize hJe : 4 * k + q.2.1.length = J at hJ
  refine ⟨wI (wJ (wJ (wI (wI M (m + 11) J (nI p)) (m + 12) J kd0) (m + 13) J va) (m + 14) J vb) (m + 10) k (nI q.2.1.length + 1), ?_, ((((CU.rf.wI (by omega)).wI (by omega)).wJ (by omega)).wJ (by omega)).wI (by omega), hM.ur (((((UR.rf.wI (by omega)).wI (by omega)).wJ (by omega)).wJ (by omega)).wI (by omega)) (MR_set mR hq (by simp only [gI_wI, gI_wJ]) ⟨⟨z1, ?_, fun p t ht => ?_⟩, ⟨?_, ?_, fun c t ht => ?_⟩, ?_, z8⟩ (fun e he => ⟨?_, ?_, fun _ => ?_, fun p hp => ⟨?_, ?_, ?_, ?_⟩, fun c hc => ⟨?_, ?_, ?_, ?_⟩⟩))⟩
  · rw [tX12_check]
    refine rd_i rfl mB.k (clI_i (m_isPart mB mR hq hpl) (it_f (by decide) (rd_i rfl mB.k (ix_m mB.a7 (m6 k p) (by omega) (by omega) (clI_i (m_isCheck _ _ M) ?_)))))
    rw [t2, hck]
    refine it_t (by decide) (rd_i rfl mB.k (it_t d1 (rd_i rfl mB.k (ix_m mB.a10 rfl (by omega) (by omega) ?_))))
    rw [z5]
    refine it_t (ne4 h4) (rd_i rfl mB.k (ix_m mB.a10 rfl (by omega) (by omega) ?_))
    rw [z5, m4, hJe]
    refine rd_i rfl mB.k (ix_m mB.a11 rfl (by omega) (by omega) (bd_i ?_))
    have mB2 : MB m (wI M (m + 11) J (nI p)) := mB.wI
    have y2 : aI (wI M (m + 11) J (nI p)) (m + 10) k = nI q.2.1.length := by rw [aI_wI, up1_no (by omega)]; exact z5
    generalize wI M (m + 11) J (nI p) = Ma at mB2 y2 ⊢
    refine rd_i rfl mB2.k (ix_m mB2.a12 rfl (by omega) (by omega) (bd_i ?_))
    have mB3 : MB m (wI Ma (m + 12) J kd0) := mB2.wI
    have y3 : aI (wI Ma (m + 12) J kd0) (m + 10) k = nI q.2.1.length := by rw [aI_wI, up1_no (by omega)]; exact y2
    generalize wI Ma (m + 12) J kd0 = Mb at mB3 y3 ⊢
    refine rd_i rfl mB3.k (ix_m mB3.a13 rfl (by omega) (by omega) (bd_i ?_))
    have mB4 : MB m (wJ Mb (m + 13) J va) := mB3.wJ
    have y4 : aI (wJ Mb (m + 13) J va) (m + 10) k = nI q.2.1.length := by rw [aI_wJ]; exact y3
    generalize wJ Mb (m + 13) J va = Mc at mB4 y4 ⊢
    refine rd_i rfl mB4.k (ix_m mB4.a14 rfl (by omega) (by omega) (bd_i ?_))
    have mB5 : MB m (wJ Mc (m + 14) J vb) := mB4.wJ
    have y5 : aI (wJ Mc (m + 14) J vb) (m + 10) k = nI q.2.1.length := by rw [aI_wJ]; exact y4
    generalize wJ Mc (m + 14) J vb = Md at mB5 y5 ⊢
    refine rd_i rfl mB5.k (ix_m mB5.a10 rfl (by omega) (by omega) (ix_m mB5.a10 rfl (by omega) (by omega) (bd_i ?_)))
    rw [y5]
    have mB6 : MB m (wI Md (m + 10) k (nI q.2.1.length + 1)) := mB5.wI
    have y6 : aI (wI Md (m + 10) k (nI q.2.1.length + 1)) (m + 10) k = nI q.2.1.length + 1 := by rw [aI_wI, up1_at, up1_at]
    generalize wI Md (m + 10) k (nI q.2.1.length + 1) = Me at mB6 y6 ⊢
    refine rd_i rfl mB6.k (ix_m mB6.a10 rfl (by omega) (by omega) ?_)
    rw [y6, nI_1]
  · simp only [aI_wI, aI_wJ]; rw [up1_no (by omega), up1_no (by omega), up1_no (by omega)]; exact z2
  · simp only [aI_wI, aI_wJ, aJ_wI, aJ_wJ]
    rw [up1_no (by omega), up1_no (by omega), up1_no (by omega), up1_no (by omega), up1_no (by omega), up1_no (by omega), up1_no (by omega), up1_no (by omega), up1_no (by omega), up1_no (by omega)]
    exact z3 p t ht
  · rw [List.length_append]; simp only [List.length_cons, List.length_nil]; omega
  · simp only [aI_wI, aI_wJ, up1_at]; rw [List.length_append, nI_1]; rfl
  · simp only [aI_wI, aI_wJ, aJ_wI, aJ_wJ]
    simp only [up1_at, up1_no (show m + 11 ≠ m + 10 by omega), up1_no (show m + 11 ≠ m + 12 by omega), up1_no (show m + 12 ≠ m + 10 by omega), up1_no (show m + 12 ≠ m + 11 by omega), up1_no (show m + 13 ≠ m + 14 by omega), up1_no (show m + 14 ≠ m + 13 by omega)]
    by_cases e2 : c < q.2.1.length
    · rw [List.getElem?_append_left e2] at ht
      simp only [up1_no (show 4 * k + c ≠ J by omega)]
      exact z6 c t ht
    · rw [List.getElem?_append_right (by omega)] at ht
      have : c - q.2.1.length < 1 := (List.getElem?_eq_some_iff.mp ht).1
      rw [show c - q.2.1.length = 0 by omega] at ht
      cases ht
      rw [show 4 * k + c = J by omega]
      simp only [up1_at]
      exact ⟨trivial, trivial, trivial, trivial⟩
  · simp only [aI_wI, aI_wJ]; rw [up1_no (by omega), up1_no (by omega), up1_no (by omega)]; exact z7
  · simp only [aI_wI, aI_wJ]; rw [up1_no (by omega), up1_no (by omega), up1_no (by omega)]
  · simp only [aI_wI, aI_wJ, up1_at]; rw [up1_no he, up1_no (by omega), up1_no (by omega)]
  · simp only [aI_wI, aI_wJ]; rw [up1_no (by omega), up1_no (by omega), up1_no (by omega)]
  · simp only [aJ_wI, aJ_wJ]; rw [up1_no (by omega), up1_no (by omega)]
  · simp only [aI_wI, aI_wJ]; rw [up1_no (by omega), up1_no (by omega), up1_no (by omega)]
  · simp only [aI_wI, aI_wJ]; rw [up1_no (by omega), up1_no (by omega), up1_no (by omega)]
  · simp only [aJ_wI, aJ_wJ]; rw [up1_no (by omega), up1_no (by omega)]
  · simp only [aI_wI, aI_wJ]; rw [up1_no (by omega), up1_no (by omega), up1_at, up1_no (by omega)]
  · simp only [aI_wI, aI_wJ]; rw [up1_no (by omega), up1_at, up1_no (by omega), up1_no (by omega)]
  · simp only [aJ_wI, aJ_wJ]; rw [up1_no (by omega), up1_at, up1_no (by omega)]
  · simp only [aJ_wI, aJ_wJ]; rw [up1_at, up1_no (by omega), up1_no (by omega)]
theorem sort_nat {nE nF : Nat} {s o : Int32} (h : srtOK nE nF s o) : ∃ k, k < 12 ∧ s = nI k := by
  obtain ⟨⟨h1, h2⟩, -⟩ := h
  rcases oob_or s 12 (by omega) with w | ⟨k, w1, w2⟩
  · exfalso
    have i0 : (0 : Int32).toInt = 0 := rfl
    have i11 : (11 : Int32).toInt = 11 := rfl
    have i12 : (nI 12).toInt = 12 := rfl
    rw [I32_le] at h1 h2
    rcases w with w | w
    · rw [I32_lt] at w; omega
    · rw [I32_le] at w; omega
  · exact ⟨k, w1, w2⟩
theorem op_check (h : Inv x E R F W O T S jW jO M) (e p ck0 : Int32) (va vb : Int64) : Op x W O T jW jO M (fun M => ex 84 10 [pR (some x), pI e, pI p, pI ck0, pJ va, pJ vb] M) (fun M => ex 185 9 [pR (some (x + 12)), pI e, pI p, pI ck0, pJ va, pJ vb] M) := by
  obtain ⟨hX, hM, aw⟩ := id h
  obtain ⟨⟨hB, hv, hL⟩, hE, hR, hF, -, hO, -, -⟩ := id hX
  obtain ⟨mB, mE, mR, mF, -, mO, -, -⟩ := id hM
  have hRl := mR.2.1
  obtain ⟨-, -, -, ⟨cs, s0, s1, s2, s3, s4⟩, -⟩ := id hB
  have kcs : 20 ≤ kd M cs ∧ kd M cs < 40 := by omega
  rcases oob_or e R.length (by omega) with ho | ⟨k, hk, rfl⟩
  · refine Op.keep h (v := pI (-1)) ?_ ?_
    · show ex 84 10 [pR (some x), pI e, pI p, pI ck0, pJ va, pJ vb] M = _
      rw [tX11_check]
      exact rd_i rfl hB.k (clR_i (c_recAt_no hB hR ho) (it_t rfl rfl))
    · show ex 185 9 [pR (some (x + 12)), pI e, pI p, pI ck0, pJ va, pJ vb] M = _
      rw [tX12_check]
      exact rd_i rfl mB.k (clI_i (m_isPart_no0 mB mR ho) (it_t rfl rfl))
  have hq : R[k]? = some R[k] := List.getElem?_eq_getElem hk
  generalize R[k] = q at hq
  obtain ⟨a, c108, hxa, hc, hcl, -⟩ := c_recAt hB hR hq
  obtain ⟨⟨z1, z2, z3⟩, ⟨z4, z5, z6⟩, z7⟩ := mR.2.2.1 k q hq
  -- a number that is no check
  have bad : oob ck0 7 → ex 84 10 [pR (some x), pI (nI k), pI p, pI ck0, pJ va, pJ vb] M = some (some (pI (-1)), M) := by
    intro w
    rw [tX11_check]
    refine rd_i rfl hB.k (clR_i c108 (it_f (fun q => nomatch q) ?_))
    by_cases w0 : ck0 < 0
    · exact it_t w0 rfl
    · refine it_f w0 (al_i s0 kcs ?_)
      rw [s3]
      refine it_f (fun z => ?_) rfl
      rcases w with w | w
      · exact w0 w
      · rw [I32_le] at w; rw [I32_lt] at z; omega
  rcases oob_or p q.1.length (by omega) with hp | ⟨j, hj, rfl⟩
  · refine Op.keep h (v := pI (-1)) ?_ ?_
    · show ex 84 10 [pR (some x), pI (nI k), pI p, pI ck0, pJ va, pJ vb] M = _
      rcases oob_or ck0 7 (by omega) with w | ⟨c, hc7, rfl⟩
      · exact bad w
      · rw [tX11_check]
        refine rd_i rfl hB.k (clR_i c108 (it_f (fun q => nomatch q) (it_f (nI_pos (by omega)) (al_i s0 kcs ?_))))
        rw [s3]
        exact it_t (nI_lt hc7 (by omega)) (rd_i rfl hc.1 (clR_i (c_partAt_no hc hp) (it_t rfl rfl)))
    · show ex 185 9 [pR (some (x + 12)), pI (nI k), pI p, pI ck0, pJ va, pJ vb] M = _
      rw [tX12_check]
      exact rd_i rfl mB.k (clI_i (m_isPart_no mB mR hq hp) (it_t rfl rfl))
  have ht : q.1[j]? = some q.1[j] := List.getElem?_eq_getElem hj
  generalize q.1[j] = t at ht
  obtain ⟨kp, c65, hkx, hcp, -⟩ := c_partAt hc ht
  obtain ⟨t1, t2, t3, t4⟩ := z3 j t ht
  obtain ⟨sn, hsn, hse⟩ := sort_nat ((aw.1 k q hq).1 j t ht).1
  by_cases hck : chkD ck0 t.2.1 = true
  · -- it is a check of this sort
    have h7 : ∃ c, c < 7 ∧ ck0 = nI c := by
      rcases (chkD_iff _ _).mp hck with ⟨z, -⟩ | ⟨z, -⟩ | ⟨z, -⟩ | ⟨z, -⟩ | ⟨z, -⟩ | ⟨z, -⟩ | ⟨z, -⟩
      · exact ⟨0, by omega, z⟩
      · exact ⟨1, by omega, z⟩
      · exact ⟨2, by omega, z⟩
      · exact ⟨3, by omega, z⟩
      · exact ⟨4, by omega, z⟩
      · exact ⟨5, by omega, z⟩
      · exact ⟨6, by omega, z⟩
    obtain ⟨c, hc7, rfl⟩ := h7
    have hbit : ¬ (csv c >>> (gI M 513 kp &&& 31)) &&& 1 = 0 := by
      intro z
      rw [hcp.2.2.1, hse] at z
      have := chk_c c hc7 sn hsn
      rw [← hse, hck, hse] at this
      rw [decide_eq_true z] at this
      cases this
    -- up to the table
    have run : ∀ r, (rd (some x) 11 M fun a11 => if gI M 711 a11 ≤ 0 then rd (some a) 9 M fun a12 => rd (gR M 577 a12) 0 M fun a14 => clI (ex 14 1 [pR (some a14)] M) fun r15 M13 => if r15 < 4 then rd (some a) 9 M13 fun a16 => bd (nO M13 1 4) fun M17 => rd (some (mT M13)) 1 M17 fun a19 => clV (ex 41 7 [pR (some a19), pI (nI j), pI (nI c), pJ va, pJ vb] M17) fun M18 => rd (gR M13 577 a16) 0 M18 fun a21 => clI (ex 19 2 [pR (some a21), pR (some (mT M13))] M18) fun r22 M20 => rd (some a) 9 M20 fun a23 => rd (gR M20 577 a23) 0 M20 fun a25 => clI (ex 14 1 [pR (some a25)] M20) fun r26 M24 => some (some (pI r26), M24) else some (some (pI (-3)), M13) else some (some (pI (-2)), M)) = r → ex 84 10 [pR (some x), pI (nI k), pI (nI j), pI (nI c), pJ va, pJ vb] M = r := by
      intro r hr
      rw [tX11_check]
      refine rd_i rfl hB.k (clR_i c108 (it_f (fun q => nomatch q) (it_f (nI_pos (by omega)) (al_i s0 kcs ?_))))
      rw [s3]
      refine it_t (nI_lt hc7 (by omega)) (rd_i rfl hc.1 (clR_i c65 (it_f (fun q => nomatch q) (ix_i s0 (Or.inr s2) rfl (by omega) (by omega) (rd_i rfl hcp.1 (it_t ?_ hr))))))
      rw [s4]
      exact hbit
    by_cases ho : O = []
    · have c0 := (ob0 hO).mpr ho
      by_cases h4 : q.2.1.length = 4
      · have d0 := (mb0 mO).mpr ho
        refine Op.keep h (v := pI (-3)) (run _ (rd_i rfl hB.k (it_t c0 (rd_i rfl hc.1 (rd_i hc.2.2.1 hc.2.2.2.2.2.k (clI_i hc.2.2.2.2.2.size (it_f (by rw [h4]; decide) rfl))))))) ?_
        show ex 185 9 [pR (some (x + 12)), pI (nI k), pI (nI j), pI (nI c), pJ va, pJ vb] M = _
        rw [tX12_check]
        refine rd_i rfl mB.k (clI_i (m_isPart mB mR hq hj) (it_f (by decide) (rd_i rfl mB.k (ix_m mB.a7 (m6 k j) (by omega) (by omega) (clI_i (m_isCheck _ _ M) ?_)))))
        rw [t2, hck]
        refine it_t (by decide) (rd_i rfl mB.k (it_t d0 (rd_i rfl mB.k (ix_m mB.a10 rfl (by omega) (by omega) ?_))))
        exact it_f (not_not_intro (by rw [z5, h4]; rfl)) rfl
      · obtain ⟨Mc, M1, e41, kc, e19, cn, hR1, f3⟩ := c_newCheck (p := j) (kd0 := nI c) (va := va) (vb := vb) hB hv hL hc hxa (by omega) hcl
        have hX1 := hX.frR f3 (fun _ q => q.elim) (fun l q => Or.inr ⟨by omega, Or.inr ⟨by rw [q, Nat.add_sub_cancel]; exact hc.1, by rw [q, show a + 2 - 1 = a + 1 by omega]; exact hc.2.2.2.2.1.k⟩⟩) hR1
        refine Op.chg (R' := R.set k (q.1, q.2.1 ++ [(j, nI c, va, vb)], q.2.2)) (v := pI (nI (q.2.1.length + 1))) h (M1 := M1) (run _ ?_) (f3.mo (n' := 25) (Nat.le_refl _) (fun _ q => q.elim) (fun l q => by omega) (fun _ q => q.elim) (fun _ q => q.elim)) hX1 (fun hM1 => ?_) ?_ (by omega)
        · refine rd_i rfl hB.k (it_t c0 (rd_i rfl hc.1 (rd_i hc.2.2.1 hc.2.2.2.2.2.k (clI_i hc.2.2.2.2.2.size (it_t (nI4 (by omega)) (rd_i rfl hc.1 (bd_i (rd_i rfl (if_pos rfl) (clV_i e41 (rd_i hc.2.2.1 kc (clI_i e19 (rd_i rfl cn.1 (rd_i cn.2.2.1 cn.2.2.2.2.2.k (clI_i cn.2.2.2.2.2.size ?_))))))))))))))
          rw [List.length_append]
          rfl
        · subst ho
          exact m_newCheck hM1 hq ht (by omega) hck
        · subst ho
          refine awR aw (wfR_set aw.1 ⟨fun p t ht => (aw.1 k q hq).1 p t ht, fun c' t' ht' => ?_⟩) (by rw [List.length_set]; omega) (cntR_set hq rfl)
          by_cases e2 : c' < q.2.1.length
          · rw [List.getElem?_append_left e2] at ht'
            exact (aw.1 k q hq).2 c' t' ht'
          · rw [List.getElem?_append_right (by omega)] at ht'
            have : c' - q.2.1.length < 1 := (List.getElem?_eq_some_iff.mp ht').1
            rw [show c' - q.2.1.length = 0 by omega] at ht'
            cases ht'
            exact ⟨t, ht, (chkD_iff _ _).mp hck⟩
    · refine Op.keep h (v := pI (-2)) (run _ (rd_i rfl hB.k (it_f (fun q => ho ((ob0 hO).mp q)) rfl))) ?_
      show ex 185 9 [pR (some (x + 12)), pI (nI k), pI (nI j), pI (nI c), pJ va, pJ vb] M = _
      rw [tX12_check]
      refine rd_i rfl mB.k (clI_i (m_isPart mB mR hq hj) (it_f (by decide) (rd_i rfl mB.k (ix_m mB.a7 (m6 k j) (by omega) (by omega) (clI_i (m_isCheck _ _ M) ?_)))))
      rw [t2, hck]
      exact it_t (by decide) (rd_i rfl mB.k (it_f (fun q => ho ((mb0 mO).mp q)) rfl))
  · have hck : chkD ck0 t.2.1 = false := by simpa using hck
    refine Op.keep h (v := pI (-1)) ?_ ?_
    · show ex 84 10 [pR (some x), pI (nI k), pI (nI j), pI ck0, pJ va, pJ vb] M = _
      rcases oob_or ck0 7 (by omega) with w | ⟨c, hc7, rfl⟩
      · exact bad w
      · rw [tX11_check]
        refine rd_i rfl hB.k (clR_i c108 (it_f (fun q => nomatch q) (it_f (nI_pos (by omega)) (al_i s0 kcs ?_))))
        rw [s3]
        refine it_t (nI_lt hc7 (by omega)) (rd_i rfl hc.1 (clR_i c65 (it_f (fun q => nomatch q) (ix_i s0 (Or.inr s2) rfl (by omega) (by omega) (rd_i rfl hcp.1 (it_f (not_not_intro ?_) rfl))))))
        rw [s4, hcp.2.2.1, hse]
        have := chk_c c hc7 sn hsn
        rw [← hse, hck, hse] at this
        exact of_decide_eq_true this
    · show ex 185 9 [pR (some (x + 12)), pI (nI k), pI (nI j), pI ck0, pJ va, pJ vb] M = _
      rw [tX12_check]
      refine rd_i rfl mB.k (clI_i (m_isPart mB mR hq hj) (it_f (by decide) (rd_i rfl mB.k (ix_m mB.a7 (m6 k j) (by omega) (by omega) (clI_i (m_isCheck _ _ M) ?_)))))
      rw [t2, hck]
      exact it_f (not_not_intro rfl) rfl
end OPR
