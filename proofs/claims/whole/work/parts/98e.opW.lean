/-! CALLS on rows: size, item -/
section OPW
variable {x : Nat} {E E' : List TE} {R R' : List TR} {F F' : List TF} {W W' : List TW} {O O' : List TO} {T T' : List TL} {S S' : TS} {jW jO jW' jO' n : Nat} {M M' M1 : Mem}
theorem XW.len0 (h : XW x M W jW) : W.length + jW ≤ 1002 := by
  have := h.1.len
  rw [List.length_append, List.length_map, List.length_replicate] at this
  exact this
theorem c_rowAt_no {v : Int64} (hB : XB x M) (hO : XW x M W jW) (hv : v < 0 ∨ lN W.length ≤ v) : ex 110 3 [pR (some x), pJ v] M = some (some (pR none), M) := by
  have hl := hO.len0
  rw [tX11_rowAt]
  by_cases h0 : v < 0
  · exact it_t (cmp_lt0.mpr h0) rfl
  · refine it_f (fun z => h0 (cmp_lt0.mp z)) (rd_i rfl hB.k (it_t ?_ rfl))
    rw [hO.2, nI_l (by omega), cmp_ge0]
    exact hv.resolve_left h0
theorem c_rowAt {c : Nat} {r : TW} (hB : XB x M) (hO : XW x M W jW) (hc : W[c]? = some r) : ∃ k, ex 110 3 [pR (some x), pJ (lN c)] M = some (some (pR (some k)), M) ∧ x + 57 < k ∧ cW M (some r) k := by
  have hl := hO.len0
  have hcl : c < W.length := (List.getElem?_eq_some_iff.mp hc).1
  have hat : (W.map some ++ List.replicate jW none)[c]? = some (some r) := by
    rw [List.getElem?_append_left (by rw [List.length_map]; exact hcl), List.getElem?_map, hc]
    rfl
  obtain ⟨k, g1, g2, g3, -⟩ := hO.1.at hat
  refine ⟨k, ?_, g2, g3⟩
  rw [tX11_rowAt]
  refine it_f (fun z => ?_) (rd_i rfl hB.k (it_f (fun z => ?_) (rd_i rfl hB.k (rd_i hB.r4.1 hB.r4.2 ?_))))
  · have := cmp_lt0.mp z
    rw [I64_lt, lN_toInt (by omega)] at this
    have : (0 : Int64).toInt = 0 := rfl
    omega
  · rw [hO.2, nI_l (by omega), cmp_ge0, lN_le (by omega) (by omega)] at z
    omega
  · rw [lN_i]
    exact clR_i g1 (ck_s rfl g3.1 rfl)
theorem m_isRow_no {m : Nat} {e : Int32} (mB : MB m M) (mW : MW m M W) (hl : W.length ≤ 1002) (h : oob e W.length) : ex 191 2 [pR (some m), pI e] M = some (some (pI 0), M) := by
  rw [tX12_isRow]
  refine rd_i rfl mB.k ?_
  rw [mW.1]
  refine clI_i (m_in _ _ _ M) ?_
  rw [inB_no (by omega) h]
  exact zo_i (Or.inl rfl) rfl
theorem m_isRow {m k : Nat} (mB : MB m M) (mW : MW m M W) (hl : W.length ≤ 1002) (h : k < W.length) : ex 191 2 [pR (some m), pI (nI k)] M = some (some (pI 1), M) := by
  rw [tX12_isRow]
  refine rd_i rfl mB.k ?_
  rw [mW.1]
  refine clI_i (m_in _ _ _ M) ?_
  rw [inB_yes (by omega) h]
  exact zo_i (Or.inr rfl) rfl
theorem op_size (h : Inv x E R F W O T S jW jO M) (e : Int32) : Op x W O T jW jO M (fun M => ex 89 3 [pR (some x), pI e] M) (fun M => ex 194 2 [pR (some (x + 12)), pI e] M) := by
  obtain ⟨hX, hM, aw⟩ := id h
  obtain ⟨⟨hB, hv, hL⟩, -, -, -, hW, -, -, -⟩ := id hX
  obtain ⟨mB, -, -, -, mW, -, -, -⟩ := id hM
  have hl := mW.2.1
  rcases oob_or e W.length (by omega) with ho | ⟨o, hk, rfl⟩
  · have c110 := c_rowAt_no hB hW (oobL (by omega) ho)
    refine Op.keep h (v := pI (-1)) ?_ ?_
    · show ex 89 3 [pR (some x), pI e] M = _
      rw [tX11_size]
      exact rd_i rfl hB.k (clR_i c110 (it_t rfl rfl))
    · show ex 194 2 [pR (some (x + 12)), pI e] M = _
      rw [tX12_size]
      exact rd_i rfl mB.k (clI_i (m_isRow_no mB mW (by omega) ho) (it_t rfl rfl))
  have hq : W[o]? = some W[o] := List.getElem?_eq_getElem hk
  generalize W[o] = w at hq
  obtain ⟨k1, c110, -, co⟩ := c_rowAt hB hW hq
  rw [← nI_l (by omega)] at c110
  refine Op.keep h (v := pI (nI w.2.length)) ?_ ?_
  · show ex 89 3 [pR (some x), pI (nI o)] M = _
    rw [tX11_size]
    refine rd_i rfl hB.k (clR_i c110 (it_f (fun q => nomatch q) (rd_i rfl co.1 ?_)))
    rw [(co.2.2.2.2 w rfl).2.1]
  · show ex 194 2 [pR (some (x + 12)), pI (nI o)] M = _
    rw [tX12_size]
    refine rd_i rfl mB.k (clI_i (m_isRow mB mW (by omega) hk) (it_f (by decide) (rd_i rfl mB.k (ix_m mB.a23 rfl (by omega) (by omega) ?_))))
    rw [(mW.2.2 o w hq).2.2.1]
theorem m16 (a b : Nat) : (16 : Int32) * nI a + nI b = nI (16 * a + b) := by rw [show (16 : Int32) = nI 16 from rfl, nI_mul, nI_add]
theorem c_hasItem_no {a : Nat} {w : TW} {v : Int64} (hc : cW M (some w) a) (hv : v < 0 ∨ lN w.2.length ≤ v) : ex 71 3 [pR (some a), pJ v] M = some (some (pI 0), M) := by
  obtain ⟨-, h2, h3, -⟩ := hc.2.2.2.2 w rfl
  rw [tX10_hasItem]
  by_cases h0 : v < 0
  · exact it_t (cmp_lt0.mpr h0) (zo_i (Or.inl rfl) rfl)
  · refine it_f (fun z => h0 (cmp_lt0.mp z)) (rd_i rfl hc.1 (it_t ?_ (zo_i (Or.inl rfl) rfl)))
    rw [h2, nI_l (by omega), cmp_ge0]
    exact hv.resolve_left h0
theorem c_hasItem {a i : Nat} {w : TW} (hc : cW M (some w) a) (hi : i < w.2.length) : ex 71 3 [pR (some a), pJ (lN i)] M = some (some (pI 1), M) := by
  obtain ⟨-, h2, h3, -⟩ := hc.2.2.2.2 w rfl
  rw [tX10_hasItem]
  refine it_f (fun z => ?_) (rd_i rfl hc.1 (it_f (fun z => ?_) (zo_i (Or.inr rfl) rfl)))
  · have := cmp_lt0.mp z
    rw [I64_lt, lN_toInt (by omega)] at this
    have : (0 : Int64).toInt = 0 := rfl
    omega
  · rw [h2, nI_l (by omega), cmp_ge0, lN_le (by omega) (by omega)] at z
    omega
theorem op_item (h : Inv x E R F W O T S jW jO M) (e f : Int32) : OpJ x W O T jW jO M (fun M => ex 88 4 [pR (some x), pI e, pI f] M) (fun M => ex 193 3 [pR (some (x + 12)), pI e, pI f] M) := by
  obtain ⟨hX, hM, aw⟩ := id h
  obtain ⟨⟨hB, hv, hL⟩, -, -, -, hW, -, -, -⟩ := id hX
  obtain ⟨mB, -, -, -, mW, -, -, -⟩ := id hM
  have hl := mW.2.1
  rcases oob_or e W.length (by omega) with ho | ⟨o, hk, rfl⟩
  · have c110 := c_rowAt_no hB hW (oobL (by omega) ho)
    refine Op.keep h (v := pJ 0) ?_ ?_
    · show ex 88 4 [pR (some x), pI e, pI f] M = _
      rw [tX11_item]
      exact rd_i rfl hB.k (clR_i c110 (it_t rfl rfl))
    · show ex 193 3 [pR (some (x + 12)), pI e, pI f] M = _
      rw [tX12_item]
      exact rd_i rfl mB.k (clI_i (m_isRow_no mB mW (by omega) ho) (it_t rfl rfl))
  have hq : W[o]? = some W[o] := List.getElem?_eq_getElem hk
  generalize W[o] = w at hq
  obtain ⟨k1, c110, -, co⟩ := c_rowAt hB hW hq
  rw [← nI_l (by omega)] at c110
  obtain ⟨y1, y2, y3, y4⟩ := mW.2.2 o w hq
  rcases oob_or f w.2.length (by omega) with ho | ⟨i, hi, rfl⟩
  · refine Op.keep h (v := pJ 0) ?_ ?_
    · show ex 88 4 [pR (some x), pI (nI o), pI f] M = _
      rw [tX11_item]
      exact rd_i rfl hB.k (clR_i c110 (it_f (fun q => nomatch q) (rd_i rfl co.1 (clI_i (c_hasItem_no co (oobL (by omega) ho)) (it_t rfl rfl)))))
    · show ex 193 3 [pR (some (x + 12)), pI (nI o), pI f] M = _
      rw [tX12_item]
      refine rd_i rfl mB.k (clI_i (m_isRow mB mW (by omega) hk) (it_f (by decide) (rd_i rfl mB.k (ix_m mB.a23 rfl (by omega) (by omega) ?_))))
      rw [y3]
      refine clI_i (m_in _ _ _ M) ?_
      rw [inB_no (by omega) ho]
      exact it_t rfl rfl
  · have hv : w.2[i]? = some w.2[i] := List.getElem?_eq_getElem hi
    generalize w.2[i] = v at hv
    have c71 := c_hasItem co hi
    rw [← nI_l (by omega)] at c71
    obtain ⟨u1, u2, u3, u4, u5⟩ := co
    refine Op.keep h (v := pJ v) ?_ ?_
    · show ex 88 4 [pR (some x), pI (nI o), pI (nI i)] M = _
      rw [tX11_item]
      refine rd_i rfl hB.k (clR_i c110 (it_f (fun q => nomatch q) (rd_i rfl u1 (clI_i c71 (it_f (by decide) (rd_i rfl u1 (ix_i u2 (Or.inl u3) rfl (by omega) (by omega) ?_)))))))
      rw [(u5 w rfl).2.2.2 i v hv]
    · show ex 193 3 [pR (some (x + 12)), pI (nI o), pI (nI i)] M = _
      rw [tX12_item]
      refine rd_i rfl mB.k (clI_i (m_isRow mB mW (by omega) hk) (it_f (by decide) (rd_i rfl mB.k (ix_m mB.a23 rfl (by omega) (by omega) ?_))))
      rw [y3]
      refine clI_i (m_in _ _ _ M) ?_
      rw [inB_yes (by omega) hi]
      refine it_f (by decide) (rd_i rfl mB.k (ix_m mB.a24 (m16 o i) (by omega) (by omega) ?_))
      rw [y4 i v hv]
end OPW
