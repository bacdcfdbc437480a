/-! CALLS on rows: size, item -/
section OPW
variable {x : Nat} {E E' : List TE} {R R' : List TR} {F F' : List TF} {W W' : List TW} {O O' : List TO} {T T' : List TL} {S S' : TS} {jW jO jW' jO' n : Nat} {M M' M1 : Mem}
theorem XW.len0 (h : XW x M W jW) : W.length + jW ≤ 1002 := by
  have := h.1.len
  rw [List.length_append, List.length_map, List.length_replicate] at this
  exact this
theorem c_rowAt_no {v : Int64} (hB : XB x M) (hO : XW x M W jW) (hv : v < 0 ∨ lN W.length ≤ v) : ex 110 3 [pR (some x), pJ v] M = some (some (pR none), M) := by
  have hl := hO.len0
  rw [tX11_rowAt]
  by_cases h0 : v < 0
  · exact it_t (cmp_lt0.mpr h0) rfl
  · refine it_f (fun z => h0 (cmp_lt0.mp z)) (rd_i rfl hB.k (it_t ?_ rfl))
    rw [hO.2, nI_l (by omega), cmp_ge0]
    exact hv.resolve_left h0
theorem c_rowAt {c : Nat} {r : TW} (hB : XB x M) (hO : XW x M W jW) (hc : W[c]? = some r) : ∃ k, ex 110 3 [pR (some x), pJ (lN c)] M = some (some (pR (some k)), M) ∧ x + 57 < k ∧ cW M (some r) k := by
  have hl := hO.len0
  have hcl : c < W.length := (List.getElem?_eq_some_iff.mp hc).1
  have hat : (W.map some ++ List.replicate jW none)[c]? = some (some r) := by
    rw [List.getElem?_append_left (by rw [List.length_map]; exact hcl), List.getElem?_map, hc]
    rfl
  obtain ⟨k, g1, g2, g3, -⟩ := hO.1.at hat
  refine ⟨k, ?_, g2, g3⟩
  rw [tX11_rowAt]
  refine it_f (fun z => ?_) (rd_i rfl hB.k (it_f (fun z => ?_) (rd_i rfl hB.k (rd_i hB.r4.1 hB.r4.2 ?_))))
  · have := cmp_lt0.mp z
    rw [I64_lt, lN_toInt (by omega)] at this
    have : (0 : Int64).toInt = 0 := rfl
    omega
  · rw [hO.2, nI_l (by omega), cmp_ge0, lN_le (by omega) (by omega)] at z
    omega
  · rw [lN_i]
    exact clR_i g1 (ck_s rfl g3.1 rfl)
theorem m_isRow_no {m : Nat} {e : Int32} (mB : MB m M) (mW : MW m M W) (hl : W.length ≤ 1002) (h : oob e W.length) : ex 191 2 [pR (some m), pI e] M = some (some (pI 0), M) := by
  rw [tX12_isRow]
  refine rd_i rfl mB.k ?_
  rw [mW.1]
  refine clI_i (m_in _ _ _ M) ?_
  rw [inB_no (by omega) h]
  exact zo_i (Or.inl rfl) rfl
theorem m_isRow {m k : Nat} (mB : MB m M) (mW : MW m M W) (hl : W.length ≤ 1002) (h : k < W.length) : ex 191 2 [pR (some m), pI (nI k)] M = some (some (pI 1), M) := by
  rw [tX12_isRow]
  refine rd_i rfl mB.k ?_
  rw [mW.1]
  refine clI_i (m_in _ _ _ M) ?_
  rw [inB_yes (by omega) h]
  exact zo_i (Or.inr rfl) rfl
end OPW
