/-! CALLS on enumerations: forget -/
section OPS
variable {x : Nat} {E E' : List TE} {R R' : List TR} {F F' : List TF} {W W' : List TW} {O O' : List TO} {T T' : List TL} {S S' : TS} {jW jO jW' jO' n : Nat} {M M1 : Mem}
theorem m_forget {m k c : Nat} {q : TE} (hM : MI m E R F W [] T S M) (hq : E[k]? = some q) (hc : c < q.1.length) : ∃ M2, ex 168 4 [pR (some m), pI (nI k), pI (nI c)] M = some (some (pI (nI (q.1.length - 1))), M2) ∧ CU m M M2 ∧ MI m (E.set k (q.1.eraseIdx c, q.2)) R F W [] T S M2 := by
  obtain ⟨mB, mE, -, -, -, mO, -, -⟩ := id hM
  have hEl := mE.2.1
  have hk : k < E.length := (List.getElem?_eq_some_iff.mp hq).1
  obtain ⟨z1, z2, z3, z4, z5, z6⟩ := mE.2.2.1 k q hq
  have d1 := (mb0 mO).mpr rfl
  have hlen : (q.1.eraseIdx c).length = q.1.length - 1 := List.length_eraseIdx_of_lt hc
  have hs1 : nI q.1.length - 1 = nI (q.1.length - 1) := nI_sub (b := 1) (by omega)
  have cu0 : CU m M (wI M (m + 1) k (nI (q.1.length - 1))) := CU.rf.wI (by omega)
  have ue0 : UE m M (wI M (m + 1) k (nI (q.1.length - 1))) := UE.rf.wI (by omega)
  have mB0 : MB m (wI M (m + 1) k (nI (q.1.length - 1))) := mB.wI
  have a0 : aI (wI M (m + 1) k (nI (q.1.length - 1))) (m + 1) = up1 (aI M (m + 1)) k (nI (q.1.length - 1)) := by rw [aI_wI, up1_at]
  have a0' : ∀ i, i ≠ 1 → aI (wI M (m + 1) k (nI (q.1.length - 1))) (m + i) = aI M (m + i) := fun i hi => a_ne (i := i) (j := 1) hi
  have j0 : ∀ i, aJ (wI M (m + 1) k (nI (q.1.length - 1))) (m + i) = aJ M (m + i) := fun i => rfl
  have g0 : gI (wI M (m + 1) k (nI (q.1.length - 1))) 768 m = gI M 768 m := rfl
  have run0 : ∀ M' v, rn PP 168 33 [some (pR (some m)), some (pI (nI k)), none, some (pI (nI c))] [] (wI M (m + 1) k (nI (q.1.length - 1))) = some (some (pI v), M') → ex 168 4 [pR (some m), pI (nI k), pI (nI c)] M = some (some (pI v), M') := by
    intro M' v hr
    rw [tX12_forget]
    refine rd_i rfl mB.k (clI_i (m_isConst mB mE hq hc) (it_t (by decide) (rd_i rfl mB.k (it_t d1 (rd_i rfl mB.k (ix_m mB.a1 rfl (by omega) (by omega) (ix_m mB.a1 rfl (by omega) (by omega) (bd_i ?_))))))))
    rw [z2, hs1]
    exact hr
  generalize wI M (m + 1) k (nI (q.1.length - 1)) = M0 at cu0 ue0 mB0 a0 a0' j0 g0 run0
  obtain ⟨M2, e1, s⟩ := m_forget_loop (m := m) (k := k) (c := c) (len := q.1.length - 1) (M0 := M0) (by omega) (by omega) (by omega) (fun p hp => by
      rw [a0' 3 (by omega)]
      by_cases h1 : p < 8 * k
      · exact Or.inr (Or.inr (Or.inr h1))
      · by_cases h2 : 8 * k + (q.1.length - 1) < p
        · exact Or.inr (Or.inr (Or.inl h2))
        · obtain ⟨y1, y2, y3⟩ := z3 (p - 8 * k) _ (List.getElem?_eq_getElem (by omega))
          rw [show 8 * k + (p - 8 * k) = p by omega] at y2
          rw [y2]
          rcases y3 with y3 | y3
          · exact Or.inl y3
          · exact Or.inr (Or.inl y3)) (by rw [a0, up1_at]) (q.1.length - 1 - c) c M0 (by omega) (Nat.le_refl _) ⟨mB0, CU.rf, UE.rf, rfl, rfl, rfl, rfl, rfl, (shf_0 _ _).symm, (shf_0 _ _).symm⟩
  obtain ⟨s0, s1, s2, s3, s4, s5, s6, s7, s8, s9⟩ := s
  rw [a0] at s4
  rw [a0' 4 (by omega)] at s5
  rw [a0' 19 (by omega)] at s6
  rw [a0' 20 (by omega)] at s7
  rw [j0] at s8
  rw [a0' 3 (by omega)] at s9
  refine ⟨M2, run0 _ _ e1, cu0.tr s1, hM.ue (ue0.tr s2) (ME_set mE hq (s3.trans g0) ⟨by rw [hlen]; omega, by rw [s4, up1_at, hlen], fun t r hr => ?_, by rw [s5]; exact z4, by rw [s6]; exact z5, by rw [s7]; exact z6⟩ (fun e he => ⟨by rw [s4, up1_no he], fun t ht => ?_, by rw [s5], by rw [s6], by rw [s7]⟩))⟩
  · have htl : t < (q.1.eraseIdx c).length := (List.getElem?_eq_some_iff.mp hr).1
    rw [List.getElem?_eraseIdx] at hr
    rw [s8, s9]
    unfold shf
    by_cases e : t < c
    · rw [if_pos e] at hr
      rw [if_neg (by omega), if_neg (by omega)]
      exact z3 t r hr
    · rw [if_neg e] at hr
      rw [if_pos (by omega), if_pos (by omega)]
      exact z3 (t + 1) r hr
  · rw [s8, s9]
    unfold shf
    rw [if_neg (by omega), if_neg (by omega)]
    exact ⟨rfl, rfl⟩
theorem op_forget (h : Inv x E R F W O T S jW jO M) (e c : Int32) : Op x W O T jW jO M (fun M => ex 76 4 [pR (some x), pI e, pI c] M) (fun M => ex 168 4 [pR (some (x + 12)), pI e, pI c] M) := by
  obtain ⟨hX, hM, aw⟩ := id h
  obtain ⟨⟨hB, hv, hL⟩, hE, -, -, -, hO, -, -⟩ := id hX
  obtain ⟨mB, mE, -, -, -, mO, -, -⟩ := id hM
  have hEl := mE.2.1
  rcases oob_or e E.length (by omega) with ho | ⟨k, hk, rfl⟩
  · refine Op.keep h (v := pI (-1)) ?_ ?_
    · show ex 76 4 [pR (some x), pI e, pI c] M = _
      rw [tX11_forget]
      exact rd_i rfl hB.k (clR_i (c_enumAt_no hB hE ho) (it_t rfl rfl))
    · show ex 168 4 [pR (some (x + 12)), pI e, pI c] M = _
      rw [tX12_forget]
      exact rd_i rfl mB.k (clI_i (m_isConst_no0 mB mE ho) (it_f (not_not_intro rfl) rfl))
  have hq : E[k]? = some E[k] := List.getElem?_eq_getElem hk
  generalize E[k] = q at hq
  obtain ⟨ea, c107, hxa, hc, hcl⟩ := c_enumAt hB hE hq
  have hlen := hc.2.2.2.2.2.len
  rcases oob_or c q.1.length (by omega) with ha | ⟨i, hi, rfl⟩
  · refine Op.keep h (v := pI (-1)) ?_ ?_
    · show ex 76 4 [pR (some x), pI (nI k), pI c] M = _
      rw [tX11_forget]
      exact rd_i rfl hB.k (clR_i c107 (it_f (fun q => nomatch q) (rd_i rfl hc.1 (clR_i (c_constAt_no hc (oobL (by omega) ha)) (it_t rfl rfl)))))
    · show ex 168 4 [pR (some (x + 12)), pI (nI k), pI c] M = _
      rw [tX12_forget]
      exact rd_i rfl mB.k (clI_i (m_isConst_no mB mE hq ha) (it_f (not_not_intro rfl) rfl))
  obtain ⟨ka, ca1, ca2, ca3, ca4⟩ := c_constAt hc (List.getElem?_eq_getElem hi)
  by_cases ho : O = []
  · have c0 := (ob0 hO).mpr ho
    obtain ⟨v1, M1, w1, w2, w3, w4⟩ := hc.2.2.2.2.2.erase hv hL hi
    have f : Fr x No (fun l => l = ea + 1) No No (0 + 24) M M1 := (Fr.rf hv hL).bL w2 w3 (Or.inl rfl)
    obtain ⟨cn, hE1⟩ := c_consts (q' := (q.1.eraseIdx i, q.2)) hv hc hxa f rfl (w4 _ (fun r c _ h => h.fr f ⟨id, id⟩)) hcl
    have hX1 := hX.frE f (fun _ q => q.elim) (fun l q => Or.inr ⟨by omega, by rw [q, Nat.add_sub_cancel]; exact hc.1⟩) hE1
    refine Op.chg (E' := E.set k (q.1.eraseIdx i, q.2)) (v := pI (nI (q.1.length - 1))) h (M1 := M1) ?_ (f.mo (n' := 24) (by omega) (fun _ q => q.elim) (fun l q => by omega) (fun _ q => q.elim) (fun _ q => q.elim)) hX1 (fun hM1 => ?_) ?_ (by omega)
    · show ex 76 4 [pR (some x), pI (nI k), pI (nI i)] M = _
      rw [tX11_forget, nI_l (by omega)]
      refine rd_i rfl hB.k (clR_i c107 (it_f (fun q => nomatch q) (rd_i rfl hc.1 (clR_i ca1 (it_f (fun q => nomatch q) (rd_i rfl hB.k (it_t c0 (rd_i rfl hc.1 (rd_i hc.2.1 hc.2.2.2.2.2.k (clR_i w1 (rd_i rfl cn.1 (rd_i cn.2.1 cn.2.2.2.2.2.k (clI_i cn.2.2.2.2.2.size ?_)))))))))))))
      rw [List.length_eraseIdx_of_lt hi]
    · subst ho
      exact m_forget hM1 hq hi
    · subst ho
      exact awE aw (by rw [List.length_set]; omega) (cntE_set hq rfl)
  · refine Op.keep h (v := pI (-2)) ?_ ?_
    · show ex 76 4 [pR (some x), pI (nI k), pI (nI i)] M = _
      rw [tX11_forget, nI_l (by omega)]
      exact rd_i rfl hB.k (clR_i c107 (it_f (fun q => nomatch q) (rd_i rfl hc.1 (clR_i ca1 (it_f (fun q => nomatch q) (rd_i rfl hB.k (it_f (fun q => ho ((ob0 hO).mp q)) rfl)))))))
    · show ex 168 4 [pR (some (x + 12)), pI (nI k), pI (nI i)] M = _
      rw [tX12_forget]
      exact rd_i rfl mB.k (clI_i (m_isConst mB mE hq hi) (it_t (by decide) (rd_i rfl mB.k (it_f (fun q => ho ((mb0 mO).mp q)) rfl))))
end OPS
