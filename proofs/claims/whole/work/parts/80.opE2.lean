/-! CALLS on enumerations, further -/
section OPS
variable {x : Nat} {E E' : List TE} {R R' : List TR} {F F' : List TF} {W W' : List TW} {O O' : List TO} {T T' : List TL} {S S' : TS} {jW jO jW' jO' n : Nat} {M M1 : Mem}
theorem fndC_ge {nm : Int64} : ∀ (l : List TC) (i : Nat), i + l.length < 2147483648 → fndC l nm i = -1 ∨ ¬ fndC l nm i = -1 := fun _ _ _ => Classical.em _
theorem op_constant (h : Inv x E R F W O T S jW jO M) (e : Int32) (nm : Int64) (b : Int32) (hb : b = 0 ∨ b = 1) : Op x W O T jW jO M (fun M => ex 74 6 [pR (some x), pI e, pJ nm, pI b] M) (fun M => ex 166 5 [pR (some (x + 12)), pI e, pJ nm, pI b] M) := by
  obtain ⟨hX, hM, aw⟩ := id h
  obtain ⟨⟨hB, hv, hL⟩, hE, -, -, -, hO, -, -⟩ := id hX
  obtain ⟨mB, mE, -, -, -, mO, -, -⟩ := id hM
  have hEl := mE.2.1
  rcases oob_or e E.length (by omega) with ho | ⟨k, hk, rfl⟩
  · refine Op.keep h (v := pI (-1)) ?_ ?_
    · show ex 74 6 [pR (some x), pI e, pJ nm, pI b] M = _
      rw [tX11_constant]
      exact rd_i rfl hB.k (clR_i (c_enumAt_no hB hE ho) (it_t rfl rfl))
    · show ex 166 5 [pR (some (x + 12)), pI e, pJ nm, pI b] M = _
      rw [tX12_constant]
      exact rd_i rfl mB.k (clI_i (m_isEnum_no mB mE ho) (it_t rfl rfl))
  have hq : E[k]? = some E[k] := List.getElem?_eq_getElem hk
  generalize E[k] = q at hq
  obtain ⟨a, c107, hxa, hc, hcl⟩ := c_enumAt hB hE hq
  obtain ⟨g1, g2, g3, g4⟩ := mE.2.2.1 k q hq
  by_cases hnm : nmOK nm = 0
  · refine Op.keep h (v := pI (-1)) ?_ ?_
    · show ex 74 6 [pR (some x), pI (nI k), pJ nm, pI b] M = _
      rw [tX11_constant]
      exact rd_i rfl hB.k (clR_i c107 (it_f (fun q => nomatch q) (clI_i (c_name nm M) (it_t hnm rfl))))
    · show ex 166 5 [pR (some (x + 12)), pI (nI k), pJ nm, pI b] M = _
      rw [tX12_constant]
      exact rd_i rfl mB.k (clI_i (m_isEnum mB mE hk) (it_f (by decide) (clI_i (m_name nm M) (it_t hnm rfl))))
  by_cases hfn : fndC q.1 nm 0 = -1
  · by_cases ho : O = []
    · have c0 := (ob0 hO).mpr ho
      by_cases h8 : q.1.length = 8
      · have d0 := (mb0 mO).mpr ho
        refine Op.keep h (v := pI (-3)) ?_ ?_
        · show ex 74 6 [pR (some x), pI (nI k), pJ nm, pI b] M = _
          rw [tX11_constant]
          exact rd_i rfl hB.k (clR_i c107 (it_f (fun q => nomatch q) (clI_i (c_name nm M) (it_f hnm (rd_i rfl hc.1 (clI_i (c_ordinalOf hc nm) (it_t hfn (rd_i rfl hB.k (it_t c0 (rd_i rfl hc.1 (rd_i hc.2.1 hc.2.2.2.2.2.k (clI_i hc.2.2.2.2.2.size (it_f (by rw [h8]; decide) rfl)))))))))))))
        · show ex 166 5 [pR (some (x + 12)), pI (nI k), pJ nm, pI b] M = _
          rw [tX12_constant]
          refine rd_i rfl mB.k (clI_i (m_isEnum mB mE hk) (it_f (by decide) (clI_i (m_name nm M) (it_f hnm (rd_i rfl mB.k (clI_i (m_ordinal mB mE hq nm) (it_t hfn (rd_i rfl mB.k (it_t d0 (rd_i rfl mB.k (ix_m mB.a1 rfl (by omega) (by omega) ?_)))))))))))
          exact it_f (not_not_intro (by rw [g2, h8]; rfl)) rfl
      · obtain ⟨Mc, M1, e42, hB1, ⟨kc, ka⟩, e19, cnew, hE1, f3⟩ := c_newConst (nm := nm) (b := b) hB hv hL hb hc hxa (by omega) hcl
        have hX1 := hX.frE f3 (fun _ q => q.elim) (fun l q => Or.inr ⟨by omega, by rw [q, Nat.add_sub_cancel]; exact hc.1⟩) hE1
        refine Op.chg (E' := E.set k (q.1 ++ [(nm, b)], q.2)) (v := pI (nI q.1.length)) h (M1 := M1) ?_ (f3.mo (n' := 25) (Nat.le_refl _) (fun _ q => q.elim) (fun l q => by omega) (fun _ q => q.elim) (fun _ q => q.elim)) hX1 (fun hM1 => ?_) ?_ (by omega)
        · show ex 74 6 [pR (some x), pI (nI k), pJ nm, pI b] M = _
          rw [tX11_constant]
          refine rd_i rfl hB.k (clR_i c107 (it_f (fun q => nomatch q) (clI_i (c_name nm M) (it_f hnm (rd_i rfl hc.1 (clI_i (c_ordinalOf hc nm) (it_t hfn (rd_i rfl hB.k (it_t c0 (rd_i rfl hc.1 (rd_i hc.2.1 hc.2.2.2.2.2.k (clI_i hc.2.2.2.2.2.size (it_t (lt8 (by omega)) (rd_i rfl hc.1 (bd_i (rd_i rfl (if_pos rfl) (clV_i e42 (rd_i hc.2.1 kc (clI_i e19 (rd_i rfl cnew.1 (rd_i cnew.2.1 cnew.2.2.2.2.2.k (clI_i cnew.2.2.2.2.2.size ?_))))))))))))))))))))))
          rw [List.length_append, show ([(nm, b)] : List TC).length = 1 from rfl, nI_pred]
        · obtain ⟨mB1, mE1, mR1, mF1, mW1, mO1, mL1, mS1⟩ := id hM1
          obtain ⟨z1, z2, z3, z4⟩ := mE1.2.2.1 k q hq
          have d1 := (mb0 mO1).mpr ho
          refine ⟨wI (wI (wJ M1 (x + 12 + 2) (8 * k + q.1.length) nm) (x + 12 + 3) (8 * k + q.1.length) b) (x + 12 + 1) k (nI q.1.length + 1), ?_, ((CU.rf.bAJ (by omega)).bAI (by omega)).bAI (by omega), hM1.ue ?_ (ME_newConst mE1 hq (by omega) hb)⟩
          · show ex 166 5 [pR (some (x + 12)), pI (nI k), pJ nm, pI b] M1 = _
            rw [tX12_constant]
            refine rd_i rfl mB1.k (clI_i (m_isEnum mB1 mE1 hk) (it_f (by decide) (clI_i (m_name nm M1) (it_f hnm (rd_i rfl mB1.k (clI_i (m_ordinal mB1 mE1 hq nm) (it_t hfn (rd_i rfl mB1.k (it_t d1 (rd_i rfl mB1.k (ix_m mB1.a1 rfl (by omega) (by omega) ?_)))))))))))
            rw [z2]
            refine it_t (ne8 (by omega)) (rd_i rfl mB1.k (rd_i rfl mB1.k (ix_m mB1.a1 rfl (by omega) (by omega) ?_)))
            rw [z2]
            refine ix_m mB1.a2 (m8 k q.1.length) (by omega) (by omega) (bd_i ?_)
            have mB2 : MB (x + 12) (wJ M1 (x + 12 + 2) (8 * k + q.1.length) nm) := mB1.wJ
            have z5 : aI (wJ M1 (x + 12 + 2) (8 * k + q.1.length) nm) (x + 12 + 1) k = nI q.1.length := z2
            generalize wJ M1 (x + 12 + 2) (8 * k + q.1.length) nm = M2 at mB2 z5 ⊢
            refine rd_i rfl mB2.k (rd_i rfl mB2.k (ix_m mB2.a1 rfl (by omega) (by omega) ?_))
            rw [z5]
            refine ix_m mB2.a3 (m8 k q.1.length) (by omega) (by omega) (zo_i hb (bd_i ?_))
            have mB3 : MB (x + 12) (wI M2 (x + 12 + 3) (8 * k + q.1.length) b) := mB2.wI
            have z6 : aI (wI M2 (x + 12 + 3) (8 * k + q.1.length) b) (x + 12 + 1) k = nI q.1.length := by rw [aI_wI, up1_no (by omega)]; exact z5
            generalize wI M2 (x + 12 + 3) (8 * k + q.1.length) b = M3 at mB3 z6 ⊢
            refine rd_i rfl mB3.k (ix_m mB3.a1 rfl (by omega) (by omega) (ix_m mB3.a1 rfl (by omega) (by omega) (bd_i ?_)))
            rw [z6]
            have mB4 : MB (x + 12) (wI M3 (x + 12 + 1) k (nI q.1.length + 1)) := mB3.wI
            have z7 : aI (wI M3 (x + 12 + 1) k (nI q.1.length + 1)) (x + 12 + 1) k = nI q.1.length + 1 := by rw [aI_wI, up1_at, up1_at]
            generalize wI M3 (x + 12 + 1) k (nI q.1.length + 1) = M4 at mB4 z7 ⊢
            refine rd_i rfl mB4.k (ix_m mB4.a1 rfl (by omega) (by omega) ?_)
            rw [z7, nI_1, nI_pred]
          · refine ⟨⟨rfl, rfl, rfl⟩, fun _ _ => rfl, fun i h5 h19 h20 => ⟨?_, ?_⟩, fun r _ => ?_⟩
            · simp only [aI_wI, aI_wJ]
              rw [up1_no (by omega), up1_no (by omega)]
            · simp only [aJ_wI, aJ_wJ]
              rw [up1_no (by omega)]
            · simp only [aI_wI, aI_wJ]
              rw [up1_no (by omega), up1_no (by omega)]
        · subst ho
          exact awE aw (by rw [List.length_set]; omega) (cntE_set hq rfl)
    · refine Op.keep h (v := pI (-2)) ?_ ?_
      · show ex 74 6 [pR (some x), pI (nI k), pJ nm, pI b] M = _
        rw [tX11_constant]
        exact rd_i rfl hB.k (clR_i c107 (it_f (fun q => nomatch q) (clI_i (c_name nm M) (it_f hnm (rd_i rfl hc.1 (clI_i (c_ordinalOf hc nm) (it_t hfn (rd_i rfl hB.k (it_f (fun q => ho ((ob0 hO).mp q)) rfl)))))))))
      · show ex 166 5 [pR (some (x + 12)), pI (nI k), pJ nm, pI b] M = _
        rw [tX12_constant]
        exact rd_i rfl mB.k (clI_i (m_isEnum mB mE hk) (it_f (by decide) (clI_i (m_name nm M) (it_f hnm (rd_i rfl mB.k (clI_i (m_ordinal mB mE hq nm) (it_t hfn (rd_i rfl mB.k (it_f (fun q => ho ((mb0 mO).mp q)) rfl)))))))))
  · refine Op.keep h (v := pI (-1)) ?_ ?_
    · show ex 74 6 [pR (some x), pI (nI k), pJ nm, pI b] M = _
      rw [tX11_constant]
      exact rd_i rfl hB.k (clR_i c107 (it_f (fun q => nomatch q) (clI_i (c_name nm M) (it_f hnm (rd_i rfl hc.1 (clI_i (c_ordinalOf hc nm) (it_f hfn rfl)))))))
    · show ex 166 5 [pR (some (x + 12)), pI (nI k), pJ nm, pI b] M = _
      rw [tX12_constant]
      exact rd_i rfl mB.k (clI_i (m_isEnum mB mE hk) (it_f (by decide) (clI_i (m_name nm M) (it_f hnm (rd_i rfl mB.k (clI_i (m_ordinal mB mE hq nm) (it_f hfn rfl)))))))
end OPS
