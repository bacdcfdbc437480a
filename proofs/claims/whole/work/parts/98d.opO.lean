/-! CALLS on objects: of, tag -/
section OPO
variable {x : Nat} {E E' : List TE} {R R' : List TR} {F F' : List TF} {W W' : List TW} {O O' : List TO} {T T' : List TL} {S S' : TS} {jW jO jW' jO' n : Nat} {M M' M1 : Mem}
theorem XO.len0 (h : XO x M O jO) : O.length + jO ≤ 1002 := by
  have := h.1.len
  rw [List.length_append, List.length_map, List.length_replicate] at this
  exact this
theorem c_objAt_no {v : Int64} (hB : XB x M) (hO : XO x M O jO) (hv : v < 0 ∨ lN O.length ≤ v) : ex 111 3 [pR (some x), pJ v] M = some (some (pR none), M) := by
  have hl := hO.len0
  rw [tX11_objectAt]
  by_cases h0 : v < 0
  · exact it_t (cmp_lt0.mpr h0) rfl
  · refine it_f (fun z => h0 (cmp_lt0.mp z)) (rd_i rfl hB.k (it_t ?_ rfl))
    rw [hO.2, nI_l (by omega), cmp_ge0]
    exact hv.resolve_left h0
theorem c_objAt {c : Nat} {r : TO} (hB : XB x M) (hO : XO x M O jO) (hc : O[c]? = some r) : ∃ k, ex 111 3 [pR (some x), pJ (lN c)] M = some (some (pR (some k)), M) ∧ x + 57 < k ∧ cO M (some r) k := by
  have hl := hO.len0
  have hcl : c < O.length := (List.getElem?_eq_some_iff.mp hc).1
  have hat : (O.map some ++ List.replicate jO none)[c]? = some (some r) := by
    rw [List.getElem?_append_left (by rw [List.length_map]; exact hcl), List.getElem?_map, hc]
    rfl
  obtain ⟨k, g1, g2, g3, -⟩ := hO.1.at hat
  refine ⟨k, ?_, g2, g3⟩
  rw [tX11_objectAt]
  refine it_f (fun z => ?_) (rd_i rfl hB.k (it_f (fun z => ?_) (rd_i rfl hB.k (rd_i hB.r5.1 hB.r5.2 ?_))))
  · have := cmp_lt0.mp z
    rw [I64_lt, lN_toInt (by omega)] at this
    have : (0 : Int64).toInt = 0 := rfl
    omega
  · rw [hO.2, nI_l (by omega), cmp_ge0, lN_le (by omega) (by omega)] at z
    omega
  · rw [lN_i]
    exact clR_i g1 (ck_s rfl g3.1 rfl)
theorem m_isObj_no {m : Nat} {e : Int32} (mB : MB m M) (mO : MO m M O) (h : oob e O.length) : ex 196 3 [pR (some m), pJ e.toInt64] M = some (some (pI 0), M) := by
  have hl := mO.2.1
  rw [tX12_isObject]
  refine rd_i rfl mB.k ?_
  rw [mO.1]
  refine clI_i (m_in _ _ _ M) ?_
  rw [inB_no (by omega) h]
  exact zo_i (Or.inl rfl) rfl
theorem m_isObj {m k : Nat} (mB : MB m M) (mO : MO m M O) (h : k < O.length) : ex 196 3 [pR (some m), pJ (nI k).toInt64] M = some (some (pI 1), M) := by
  have hl := mO.2.1
  rw [tX12_isObject]
  refine rd_i rfl mB.k ?_
  rw [mO.1]
  refine clI_i (m_in _ _ _ M) ?_
  rw [inB_yes (by omega) h]
  exact zo_i (Or.inr rfl) rfl
theorem op_tag (h : Inv x E R F W O T S jW jO M) (e f : Int32) : Op x W O T jW jO M (fun M => ex 95 5 [pR (some x), pI e, pI f] M) (fun M => ex 206 3 [pR (some (x + 12)), pI e, pI f] M) := by
  obtain ⟨hX, hM, aw⟩ := id h
  obtain ⟨⟨hB, hv, hL⟩, -, -, hF, -, hO, -, -⟩ := id hX
  obtain ⟨mB, -, mR, mF, -, mO, -, -⟩ := id hM
  have hFl := mF.2.1
  have hRl := mR.2.1
  have hOl := mO.2.1
  have c109 : (oob f F.length ∧ ex 109 2 [pR (some x), pI f] M = some (some (pR none), M)) ∨ ∃ k q a, F[k]? = some q ∧ f = nI k ∧ cF M q a ∧ ex 109 2 [pR (some x), pI f] M = some (some (pR (some a)), M) := by
    rcases oob_or f F.length (by omega) with ho | ⟨k, hk, rfl⟩
    · exact Or.inl ⟨ho, c_famAt_no hB hF ho⟩
    · obtain ⟨a, g1, -, g3, -⟩ := c_famAt hB hF (List.getElem?_eq_getElem hk)
      exact Or.inr ⟨k, _, a, List.getElem?_eq_getElem hk, rfl, g3, g1⟩
  rcases oob_or e O.length (by omega) with ho | ⟨o, hk, rfl⟩
  · have c111 := c_objAt_no hB hO (oobL (by omega) ho)
    refine Op.keep h (v := pI (-1)) ?_ ?_
    · show ex 95 5 [pR (some x), pI e, pI f] M = _
      rw [tX11_tag]
      rcases c109 with ⟨-, z⟩ | ⟨k, q, a, -, -, -, z⟩
      · exact rd_i rfl hB.k (clR_i c111 (rd_i rfl hB.k (clR_i z (it_t rfl rfl))))
      · exact rd_i rfl hB.k (clR_i c111 (rd_i rfl hB.k (clR_i z (it_t rfl rfl))))
    · show ex 206 3 [pR (some (x + 12)), pI e, pI f] M = _
      rw [tX12_tag]
      exact rd_i rfl mB.k (clI_i (m_isObj_no mB mO ho) (it_t rfl rfl))
  have hq : O[o]? = some O[o] := List.getElem?_eq_getElem hk
  generalize O[o] = w at hq
  obtain ⟨k1, c111, -, co⟩ := c_objAt hB hO hq
  rw [← nI_l (by omega)] at c111
  rcases c109 with ⟨hof, z⟩ | ⟨k, q, a, hqf, rfl, hcf, z⟩
  · refine Op.keep h (v := pI (-1)) ?_ ?_
    · show ex 95 5 [pR (some x), pI (nI o), pI f] M = _
      rw [tX11_tag]
      exact rd_i rfl hB.k (clR_i c111 (rd_i rfl hB.k (clR_i z (it_f (fun q => nomatch q) (it_t rfl rfl)))))
    · show ex 206 3 [pR (some (x + 12)), pI (nI o), pI f] M = _
      rw [tX12_tag]
      exact rd_i rfl mB.k (clI_i (m_isObj mB mO hk) (it_f (by decide) (rd_i rfl mB.k (clI_i (m_isFam_no mB mF hof) (it_f (not_not_intro rfl) rfl)))))
  · have hkf : k < F.length := (List.getElem?_eq_some_iff.mp hqf).1
    have hw := (co.2.2.2.2 w rfl).1
    have hlv : q.2 = lvF F k := by rw [(aw.2.1 k q hqf).2, lvT_at _ _ _ hkf]; rfl
    refine Op.chg (v := pI (fndI q.2 (nI w.1) 0)) h (M1 := M) ?_ (Fr.rf (K := KX) (L := AX x) (AI := AX x) (AJ := AX x) hv hL) hX (fun hM1 => ?_) aw (by omega)
    · show ex 95 5 [pR (some x), pI (nI o), pI (nI k)] M = _
      rw [tX11_tag]
      refine rd_i rfl hB.k (clR_i c111 (rd_i rfl hB.k (clR_i z (it_f (fun q => nomatch q) (it_f (fun q => nomatch q) (rd_i rfl co.1 (rd_i rfl hcf.1 ?_)))))))
      rw [hw]
      exact clI_i (c_tagOf hcf _) rfl
    · obtain ⟨M2, e2, f2⟩ := m_findLeaves mB mF hkf (fun i c hc => by
        cases hr : F[i]? with
        | none => rw [List.getD_eq_getElem?_getD, hr] at hc; simp at hc
        | some r =>
          rw [List.getD_eq_getElem?_getD, hr] at hc
          have hc : c ∈ r.1 := hc
          obtain ⟨j, hj⟩ := List.getElem?_of_mem hc
          have hi : i < F.length := (List.getElem?_eq_some_iff.mp hr).1
          rcases (aw.2.1 i r hr).1 j c hj with ⟨r', y1, y2⟩ | ⟨g, y1, y2⟩
          · exact Or.inl ⟨r', by omega, y2⟩
          · exact Or.inr ⟨g, y1, by omega, y2⟩)
      obtain ⟨⟨mB2, cu, uf⟩, ⟨w1, w2, w3⟩, -⟩ := id f2
      refine ⟨M2, ?_, cu, hM1.uf uf (mF.cg w1 w2 w3)⟩
      show ex 206 3 [pR (some (x + 12)), pI (nI o), pI (nI k)] M = _
      rw [tX12_tag]
      refine rd_i rfl mB.k (clI_i (m_isObj mB mO hk) (it_f (by decide) (rd_i rfl mB.k (clI_i (m_isFam mB mF hkf) (it_t (by decide) (rd_i rfl mB.k (clV_i e2 (rd_i rfl mB2.k (ix_m mB2.a25 rfl (by omega) (by omega) (rd_i rfl mB2.k ?_))))))))))
      rw [uf.2.2.1 25 (by omega), (mO.2.2 o w hq).2.1, hlv]
      exact clI_i (m_tagOf f2 _) rfl
theorem op_of (h : Inv x E R F W O T S jW jO M) (e : Int32) : Op x W O T jW jO M (fun M => ex 94 3 [pR (some x), pI e] M) (fun M => ex 205 2 [pR (some (x + 12)), pI e] M) := by
  obtain ⟨hX, hM, aw⟩ := id h
  obtain ⟨⟨hB, hv, hL⟩, -, -, hF, -, hO, -, -⟩ := id hX
  obtain ⟨mB, -, mR, mF, -, mO, -, -⟩ := id hM
  have hOl := mO.2.1
  rcases oob_or e O.length (by omega) with ho | ⟨o, hk, rfl⟩
  · have c111 := c_objAt_no hB hO (oobL (by omega) ho)
    refine Op.keep h (v := pI (-1)) ?_ ?_
    · show ex 94 3 [pR (some x), pI e] M = _
      rw [tX11_of]
      exact rd_i rfl hB.k (clR_i c111 (it_t rfl rfl))
    · show ex 205 2 [pR (some (x + 12)), pI e] M = _
      rw [tX12_of]
      exact rd_i rfl mB.k (clI_i (m_isObj_no mB mO ho) (it_t rfl rfl))
  have hq : O[o]? = some O[o] := List.getElem?_eq_getElem hk
  generalize O[o] = w at hq
  obtain ⟨k1, c111, -, co⟩ := c_objAt hB hO hq
  rw [← nI_l (by omega)] at c111
  refine Op.keep h (v := pI (nI w.1)) ?_ ?_
  · show ex 94 3 [pR (some x), pI (nI o)] M = _
    rw [tX11_of]
    refine rd_i rfl hB.k (clR_i c111 (it_f (fun q => nomatch q) (rd_i rfl co.1 ?_)))
    rw [(co.2.2.2.2 w rfl).1]
  · show ex 205 2 [pR (some (x + 12)), pI (nI o)] M = _
    rw [tX12_of]
    refine rd_i rfl mB.k (clI_i (m_isObj mB mO hk) (it_f (by decide) (rd_i rfl mB.k (ix_m mB.a25 rfl (by omega) (by omega) ?_))))
    rw [(mO.2.2 o w hq).2.1]
end OPO
