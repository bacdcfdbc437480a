/-! CALLS on records: part -/
section OPR
variable {x : Nat} {E E' : List TE} {R R' : List TR} {F F' : List TF} {W W' : List TW} {O O' : List TO} {T T' : List TL} {S S' : TS} {jW jO jW' jO' n : Nat} {M M1 : Mem}
theorem c_newPart {k a : Nat} {q : TR} {nm std : Int64} {s o : Int32} (hB : XB x M) (hv : PIv x M) (hL : LI M) (hc : cR x M q a) (hx : x + 57 < a) (hn : q.1.length ≤ 1000) (hcl : ∀ (M' : Mem) (q' : TR), (∀ as, isL M (x + 2) as → isL M' (x + 2) as) → cR x M' q' a → (∀ q b, b ≠ a → x + 57 < b → cR x M q b → cR x M' q b) → XR x M' (R.set k q')) :
    ∃ Mc M1, ex 63 7 [pR (some (mT M)), pJ nm, pI s, pI o, pJ std] (nO M 8 4) = some (none, Mc) ∧ kd Mc (a + 1) = 0 ∧ ex 19 2 [pR (some (a + 1)), pR (some (mT M))] Mc = some (some (pI 1), M1) ∧ cR x M1 (q.1 ++ [(nm, s, nrm s o, stdV s std)], q.2) a ∧ XR x M1 (R.set k (q.1 ++ [(nm, s, nrm s o, stdV s std)], q.2)) ∧ Fr x No (fun l => l = a + 1) No No 25 M M1 := by
  have hT := hB.lt
  have f0 : Fr x No No No No (0 + 1) M (nO M 8 4) := (Fr.rf hv hL).bO (by omega) (by omega)
  obtain ⟨Mc, e63, f1, cn, -, -, -⟩ := part_init (nm := nm) (std := std) (s := s) (o := o) f0 (Nat.le_refl _) (by rw [kd_nO, up1_at])
  have hB1 : XB x Mc := hB.fr f1 (fun _ _ => id) (fun _ _ => id)
  have hca := hc.fr f1 (fun _ _ => id) ⟨id, id⟩
  have lC : isO Mc x (a + 1) (fun r c => cP Mc r c ∧ c ≠ mT M) q.1 := isO.mono hc.2.2.2.2.1 (f1.ls id) (fun r c _ h => ⟨h.fr f1 (fun _ _ => id), fun e => by have := lt_of_kd hv h.1 (by omega); omega⟩)
  obtain ⟨M1, e19, lm, v1, lC1⟩ := isO.add (q := ((nm, s, nrm s o, stdV s std) : TP)) (c := 8) lC f1.v (fun d hd => (hB1.de d hd).1) f1.li (by omega) cn.1 (by omega) (by omega) cn
  have f2 : Fr x No (fun l => l = a + 1) No No (0 + 24) Mc M1 := (Fr.rf (K := No) (L := fun l => l = a + 1) (AI := No) (AJ := No) f1.v f1.li).bL lm v1 (Or.inl rfl)
  have f3 : Fr x No (fun l => l = a + 1) No No 25 M M1 := ((f1.mo (L' := fun l => l = a + 1) (Nat.le_refl _) (fun _ => id) (fun _ q => q.elim) (fun _ => id) (fun _ => id)).tr f2).mo (by omega) (fun _ => id) (fun _ => id) (fun _ => id) (fun _ => id)
  have hk2 : isO M1 x (a + 2) (cK M1) q.2.1 := hc.2.2.2.2.2.mono (f3.ls (fun q => by omega)) (fun r c _ h => h.fr f3 (fun _ _ => id))
  obtain ⟨g1, g2⟩ := c_rset (q' := (q.1 ++ [(nm, s, nrm s o, stdV s std)], q.2)) hv hc hx (f3.mo (L' := fun l => l = a + 1 ∨ l = a + 2) (Nat.le_refl _) (fun _ => id) (fun _ => Or.inl) (fun _ => id) (fun _ => id)) (fun _ _ => id) rfl (lC1 _ (fun r c _ h => h.fr f2 (fun _ _ => id))) hk2 hcl
  exact ⟨Mc, M1, e63, hca.2.2.2.2.1.k, e19, g1, g2, f3⟩
theorem ne6 {n : Nat} (h : n < 6) : ¬ nI n = 6 := fun q => by
  have := nI_inj (b := 6) (by omega) (by omega) q
  omega
set_option maxHeartbeats 4000000 in
theorem m_newPart {m k : Nat} {q : TR} {nm std : Int64} {s o : Int32} (hM : MI m E R F W [] T S M) (hq : R[k]? = some q) (h6 : q.1.length < 6) (hnm : ¬ nmOK nm = 0) (hfn : fndP q.1 nm 0 = -1) (hs : isSrt E.length F.length s o) : ∃ M2, ex 179 9 [pR (some m), pI (nI k), pJ nm, pI s, pI o, pJ std] M = some (some (pI (nI q.1.length)), M2) ∧ CU m M M2 ∧ MI m E (R.set k (q.1 ++ [(nm, s, nrm s o, stdV s std)], q.2)) F W [] T S M2 := by
  obtain ⟨mB, mE, mR, mF, -, mO, -, -⟩ := id hM
  have hRl := mR.2.1
  have hk : k < R.length := (List.getElem?_eq_some_iff.mp hq).1
  obtain ⟨⟨z1, z2, z3⟩, ⟨z4, z5, z6⟩, z7, z8⟩ := mR.2.2.1 k q hq
  have d1 := (mb0 mO).mpr rfl
  have hJ : 6 * k + q.1.length < 36 := by omega
  generalize hJe : 6 * k + q.1.length = J at hJ
  refine ⟨wI (wJ (wJ (wI (wI (wJ M (m + 6) J nm) (m + 7) J s) (m + 8) J (nrm s o)) (m + 9) J (stdV s 0)) (m + 9) J (stdV s std)) (m + 5) k (nI q.1.length + 1), ?_, (((((CU.rf.wJ (by omega)).wI (by omega)).wI (by omega)).wJ (by omega)).wJ (by omega)).wI (by omega), hM.ur ((((((UR.rf.wJ (by omega)).wI (by omega)).wI (by omega)).wJ (by omega)).wJ (by omega)).wI (by omega)) (MR_set mR hq (by simp only [gI_wI, gI_wJ]) ⟨⟨?_, ?_, fun p t ht => ?_⟩, ⟨z4, ?_, fun c t ht => ?_⟩, ?_, z8⟩ (fun e he => ⟨?_, ?_, fun _ => ?_, fun p hp => ⟨?_, ?_, ?_, ?_⟩, fun c hc => ⟨?_, ?_, ?_, ?_⟩⟩))⟩
  · rw [tX12_part]
    refine rd_i rfl mB.k (clI_i (m_isRec mB mR hk) (it_f (by decide) (clI_i (m_name nm M) (it_f hnm (rd_i rfl mB.k (clI_i (m_partNamed mB mR hq nm) (it_f (not_not_intro hfn) (rd_i rfl mB.k (clI_i ((m_isSort mB mE mF).1 hs) (it_t (by decide) (rd_i rfl mB.k (it_t d1 (rd_i rfl mB.k (ix_m mB.a5 rfl (by omega) (by omega) ?_))))))))))))))
    rw [z2]
    refine it_t (ne6 h6) (rd_i rfl mB.k (ix_m mB.a5 rfl (by omega) (by omega) ?_))
    rw [z2, m6, hJe]
    refine rd_i rfl mB.k (ix_m mB.a6 rfl (by omega) (by omega) (bd_i ?_))
    have mB2 : MB m (wJ M (m + 6) J nm) := mB.wJ
    have y2 : aI (wJ M (m + 6) J nm) (m + 5) k = nI q.1.length := z2
    generalize wJ M (m + 6) J nm = Ma at mB2 y2 ⊢
    refine rd_i rfl mB2.k (clV_i (m_setSort mB2 hJ) ?_)
    have mB3 : MB m (wJ (wI (wI Ma (m + 7) J s) (m + 8) J (nrm s o)) (m + 9) J (stdV s 0)) := ((mB2.wI).wI).wJ
    have y3 : aI (wJ (wI (wI Ma (m + 7) J s) (m + 8) J (nrm s o)) (m + 9) J (stdV s 0)) (m + 5) k = nI q.1.length := by
      simp only [aI_wJ, aI_wI]
      rw [up1_no (by omega), up1_no (by omega)]
      exact y2
    have y4 : aJ (wJ (wI (wI Ma (m + 7) J s) (m + 8) J (nrm s o)) (m + 9) J (stdV s 0)) (m + 9) J = stdV s 0 := by rw [aJ_wJ, up1_at, up1_at]
    generalize wJ (wI (wI Ma (m + 7) J s) (m + 8) J (nrm s o)) (m + 9) J (stdV s 0) = Mb at mB3 y3 y4 ⊢
    refine rd_i rfl mB3.k ?_
    have tail : ∀ v : Int64, (rd (some m) 12 (wJ Mb (m + 9) J v) fun a32 => ix 20 30 (gR (wJ Mb (m + 9) J v) 774 a32) (nI k) (wJ Mb (m + 9) J v) fun a33 j34 => ix 20 20 (gR (wJ Mb (m + 9) J v) 774 a32) (nI k) (wJ Mb (m + 9) J v) fun a35 j36 => bd (wI (wJ Mb (m + 9) J v) a35 j36 (aI (wJ Mb (m + 9) J v) a33 j34 + 1)) fun M37 => rd (some m) 12 M37 fun a38 => ix 20 30 (gR M37 774 a38) (nI k) M37 fun a39 j40 => some (some (pI (aI M37 a39 j40 - 1)), M37)) = some (some (pI (nI q.1.length)), wI (wJ Mb (m + 9) J v) (m + 5) k (nI q.1.length + 1)) := by
      intro v
      have mB4 : MB m (wJ Mb (m + 9) J v) := mB3.wJ
      have y5 : aI (wJ Mb (m + 9) J v) (m + 5) k = nI q.1.length := by rw [aI_wJ]; exact y3
      generalize wJ Mb (m + 9) J v = Mc at mB4 y5 ⊢
      refine rd_i rfl mB4.k (ix_m mB4.a5 rfl (by omega) (by omega) (ix_m mB4.a5 rfl (by omega) (by omega) (bd_i ?_)))
      rw [y5]
      have mB5 : MB m (wI Mc (m + 5) k (nI q.1.length + 1)) := mB4.wI
      have y6 : aI (wI Mc (m + 5) k (nI q.1.length + 1)) (m + 5) k = nI q.1.length + 1 := by rw [aI_wI, up1_at, up1_at]
      generalize wI Mc (m + 5) k (nI q.1.length + 1) = Md at mB5 y6 ⊢
      refine rd_i rfl mB5.k (ix_m mB5.a5 rfl (by omega) (by omega) ?_)
      rw [y6, nI_1, nI_pred]
    by_cases h8 : 8 ≤ s
    · refine it_t h8 (rd_i rfl mB3.k (ix_m mB3.a9 rfl (by omega) (by omega) (ix_m mB3.a9 rfl (by omega) (by omega) (bd_i ?_))))
      have e8 : stdV s 0 = stdV s std := by unfold stdV; rw [if_pos h8, if_pos h8]
      rw [y4, e8]
      exact tail _
    · refine it_f h8 (clJ_i (m_shaped s std Mb) (ix_m mB3.a9 rfl (by omega) (by omega) (bd_i ?_)))
      have e8 : shp s std = stdV s std := by unfold stdV; rw [if_neg h8]
      rw [e8]
      exact tail _
  · rw [List.length_append]; simp only [List.length_cons, List.length_nil]; omega
  · simp only [aI_wI, aI_wJ, up1_at]; rw [List.length_append, nI_1]; rfl
  · simp only [aI_wI, aI_wJ, aJ_wI, aJ_wJ]
    simp only [up1_at, up1_no (show m + 6 ≠ m + 9 by omega), up1_no (show m + 7 ≠ m + 5 by omega), up1_no (show m + 7 ≠ m + 8 by omega), up1_no (show m + 8 ≠ m + 5 by omega), up1_no (show m + 8 ≠ m + 7 by omega)]
    by_cases e2 : p < q.1.length
    · rw [List.getElem?_append_left e2] at ht
      simp only [up1_no (show 6 * k + p ≠ J by omega), up1_no (show m + 9 ≠ m + 6 by omega)]
      exact z3 p t ht
    · rw [List.getElem?_append_right (by omega)] at ht
      have : p - q.1.length < 1 := (List.getElem?_eq_some_iff.mp ht).1
      rw [show p - q.1.length = 0 by omega] at ht
      cases ht
      rw [show 6 * k + p = J by omega]
      simp only [up1_at]
      exact ⟨trivial, trivial, trivial, trivial⟩
  · simp only [aI_wI, aI_wJ]; rw [up1_no (by omega), up1_no (by omega), up1_no (by omega)]; exact z5
  · simp only [aI_wI, aI_wJ, aJ_wI, aJ_wJ]
    rw [up1_no (by omega), up1_no (by omega), up1_no (by omega), up1_no (by omega), up1_no (by omega), up1_no (by omega), up1_no (by omega), up1_no (by omega), up1_no (by omega), up1_no (by omega), up1_no (by omega), up1_no (by omega)]
    exact z6 c t ht
  · simp only [aI_wI, aI_wJ]; rw [up1_no (by omega), up1_no (by omega), up1_no (by omega)]; exact z7
  · simp only [aI_wI, aI_wJ, up1_at]; rw [up1_no he, up1_no (by omega), up1_no (by omega)]
  · simp only [aI_wI, aI_wJ]; rw [up1_no (by omega), up1_no (by omega), up1_no (by omega)]
  · simp only [aI_wI, aI_wJ]; rw [up1_no (by omega), up1_no (by omega), up1_no (by omega)]
  · simp only [aJ_wI, aJ_wJ]
    simp only [up1_at, up1_no (show m + 6 ≠ m + 9 by omega)]
    rw [up1_no (by omega)]
  · simp only [aI_wI, aI_wJ]
    rw [up1_no (by omega), up1_no (by omega), up1_at, up1_no (by omega)]
  · simp only [aI_wI, aI_wJ]
    rw [up1_no (by omega), up1_at, up1_no (by omega), up1_no (by omega)]
  · simp only [aJ_wI, aJ_wJ]
    simp only [up1_at, up1_no (show m + 9 ≠ m + 6 by omega)]
    rw [up1_no (by omega), up1_no (by omega)]
  · simp only [aI_wI, aI_wJ]; rw [up1_no (by omega), up1_no (by omega), up1_no (by omega)]
  · simp only [aI_wI, aI_wJ]; rw [up1_no (by omega), up1_no (by omega), up1_no (by omega)]
  · simp only [aJ_wI, aJ_wJ]; rw [up1_no (by omega), up1_no (by omega), up1_no (by omega)]
  · simp only [aJ_wI, aJ_wJ]; rw [up1_no (by omega), up1_no (by omega), up1_no (by omega)]
end OPR
