/-! CALLS that only look: started, cause, count, told, line, about -/
section OPS
variable {x : Nat} {E E' : List TE} {R R' : List TR} {F F' : List TF} {W W' : List TW} {O O' : List TO} {T T' : List TL} {S S' : TS} {jW jO jW' jO' n : Nat} {M M' M1 : Mem}
theorem cntE_le (E : List TE) : cntE E ≤ E.length := List.length_filter_le _ _
theorem cntR_le (R : List TR) : cntR R ≤ R.length := List.length_filter_le _ _
theorem op_started (h : Inv x E R F W O T S jW jO M) (e : Int32) : Op x W O T jW jO M (fun M => ex 99 2 [pR (some x), pI e] M) (fun M => ex 188 2 [pR (some (x + 12)), pI e] M) := by
  obtain ⟨hX, hM, aw⟩ := id h
  obtain ⟨⟨hB, hv, hL⟩, -, -, -, -, -, -, hS⟩ := id hX
  obtain ⟨mB, mE, mR, -, -, -, -, mS⟩ := id hM
  have hEl := mE.2.1
  have hRl := mR.2.1
  have l1 := cntE_le E
  have l2 := cntR_le R
  have hl : S.2.2.1.length ≤ 10 := by rw [aw.2.2.2.2.2.1]; omega
  rcases oob_or e S.2.2.1.length (by omega) with ho | ⟨k, hk, rfl⟩
  · refine Op.keep h (v := pI (-1)) ?_ ?_
    · show ex 99 2 [pR (some x), pI e] M = _
      rw [tX11_started]
      by_cases h0 : e < 0
      · exact it_t h0 rfl
      · exact it_f h0 (rd_i rfl hB.k (it_t (by rw [hS.2.2.1]; exact ho.resolve_left h0) rfl))
    · show ex 188 2 [pR (some (x + 12)), pI e] M = _
      rw [tX12_started]
      refine rd_i rfl mB.k ?_
      rw [mS.2.2.1]
      refine clI_i (m_in _ _ _ M) ?_
      rw [inB_no (by omega) ho]
      exact it_t rfl rfl
  · have hc : S.2.2.1[k]? = some S.2.2.1[k] := List.getElem?_eq_getElem hk
    generalize S.2.2.1[k] = c at hc
    refine Op.keep h (v := pI c) ?_ ?_
    · show ex 99 2 [pR (some x), pI (nI k)] M = _
      rw [tX11_started]
      refine it_f (nI_pos (by omega)) (rd_i rfl hB.k (it_f (by rw [hS.2.2.1]; exact nI_ge hk (by omega)) (rd_i rfl hB.k (ix_i hB.r6.1 (Or.inl hB.r6.2.1) rfl (by rw [hB.r6.2.2]; omega) (by omega) ?_))))
      rw [hS.2.2.2.1 k c hc]
    · show ex 188 2 [pR (some (x + 12)), pI (nI k)] M = _
      rw [tX12_started]
      refine rd_i rfl mB.k ?_
      rw [mS.2.2.1]
      refine clI_i (m_in _ _ _ M) ?_
      rw [inB_yes (by omega) hk]
      refine it_f (by decide) (rd_i rfl mB.k (ix_m mB.a21 rfl (by omega) (by omega) ?_))
      rw [mS.2.2.2.1 k c hc]
theorem op_cause (h : Inv x E R F W O T S jW jO M) (e : Int32) : Op x W O T jW jO M (fun M => ex 92 2 [pR (some x), pI e] M) (fun M => ex 203 2 [pR (some (x + 12)), pI e] M) := by
  obtain ⟨hX, hM, aw⟩ := id h
  obtain ⟨⟨hB, hv, hL⟩, -, -, -, -, -, -, hS⟩ := id hX
  obtain ⟨mB, -, -, -, -, -, -, mS⟩ := id hM
  have k9 := hB.r9
  rcases oob_or e 5 (by omega) with ho | ⟨k, hk, rfl⟩
  · have ne : ∀ j : Nat, j < 5 → ¬ e = Int32.ofInt (j : Int) := fun j hj q => by
      have q : e = nI j := q
      rcases ho with ho | ho
      · rw [q] at ho; exact nI_pos (by omega) ho
      · rw [q] at ho; exact nI_ge hj (by omega) ho
    refine Op.keep h (v := pI (-2147483648)) ?_ ?_
    · show ex 92 2 [pR (some x), pI e] M = _
      rw [tX11_cause]
      by_cases h0 : e < 0
      · exact it_t h0 rfl
      · refine it_f h0 (rd_i rfl hB.k (al_i k9.1 (by rw [k9.2.1]; omega) (it_t ?_ rfl)))
        rw [k9.2.2]
        exact ho.resolve_left h0
    · show ex 203 2 [pR (some (x + 12)), pI e] M = _
      rw [tX12_cause]
      exact it_f (ne 0 (by omega)) (it_f (ne 1 (by omega)) (it_f (ne 2 (by omega)) (it_f (ne 3 (by omega)) (it_f (ne 4 (by omega)) rfl))))
  · refine Op.keep h (v := pI (S.2.2.2.2.1 k)) ?_ ?_
    · show ex 92 2 [pR (some x), pI (nI k)] M = _
      rw [tX11_cause]
      refine it_f (nI_pos (by omega)) (rd_i rfl hB.k (al_i k9.1 (by rw [k9.2.1]; omega) (it_f (by rw [k9.2.2]; exact nI_ge hk (by omega)) (rd_i rfl hB.k (ix_i k9.1 (Or.inl k9.2.1) rfl (by rw [k9.2.2]; omega) (by omega) ?_)))))
      rw [hS.2.2.2.2.2.1 k hk]
    · show ex 203 2 [pR (some (x + 12)), pI (nI k)] M = _
      obtain ⟨s0, s1, s2, s3, s4⟩ := mS.2.2.2.2.2.1
      rw [tX12_cause]
      match k, hk with
      | 0, _ => exact it_t rfl (rd_i rfl mB.k (by rw [s0]))
      | 1, _ => exact it_f (by decide) (it_t rfl (rd_i rfl mB.k (by rw [s1])))
      | 2, _ => exact it_f (by decide) (it_f (by decide) (it_t rfl (rd_i rfl mB.k (by rw [s2]))))
      | 3, _ => exact it_f (by decide) (it_f (by decide) (it_f (by decide) (it_t rfl (rd_i rfl mB.k (by rw [s3])))))
      | 4, _ => exact it_f (by decide) (it_f (by decide) (it_f (by decide) (it_f (by decide) (it_t rfl (rd_i rfl mB.k (by rw [s4]))))))
/-- the lines at their addresses -/
def XLa (x : Nat) (M : Mem) (as : List Nat) (ad : Nat → Nat → Nat) (T : List TL) : Prop := isL M (x + 10) as ∧ (∀ i j a : Nat, as[i]? = some a → as[j]? = some a → i = j) ∧ as.length = T.length ∧
  (∀ (l p l' p' : Nat) (q q' : TL), T[l]? = some q → T[l']? = some q' → p < q.2.2.1.length → p' < q'.2.2.1.length → ad l p = ad l' p' → l = l' ∧ p = p') ∧
  ∀ (l a : Nat) (q : TL), as[l]? = some a → T[l]? = some q → x + 57 < a ∧ cL x M (ad l) q a
theorem XLa.xl {as : List Nat} {ad : Nat → Nat → Nat} (h : XLa x M as ad T) : XL x M T := ⟨as, ad, h⟩
theorem XLa.size {as : List Nat} {ad : Nat → Nat → Nat} (h : XLa x M as ad T) : ex 14 1 [pR (some (x + 10))] M = some (some (pI (nI T.length)), M) := by
  have := L_size h.1
  rw [h.2.2.1] at this
  exact this
theorem XLa.len {as : List Nat} {ad : Nat → Nat → Nat} (h : XLa x M as ad T) : T.length ≤ 1002 := by
  have := h.1.2.2.1
  rw [h.2.2.1] at this
  exact this
theorem XLa.at {as : List Nat} {ad : Nat → Nat → Nat} {l : Nat} {q : TL} (h : XLa x M as ad T) (hq : T[l]? = some q) : ∃ a, as[l]? = some a ∧ ex 16 2 [pR (some (x + 10)), pI (nI l)] M = some (some (pR (some a)), M) ∧ x + 57 < a ∧ cL x M (ad l) q a := by
  have hl : l < T.length := (List.getElem?_eq_some_iff.mp hq).1
  have hl2 : l < as.length := by rw [h.2.2.1]; exact hl
  have ha : as[l]? = some as[l] := List.getElem?_eq_getElem hl2
  exact ⟨as[l], ha, L_get h.1 ha, h.2.2.2.2 l _ q ha hq⟩
theorem c_lineAt_no {as : List Nat} {ad : Nat → Nat → Nat} {v : Int64} (hB : XB x M) (h : XLa x M as ad T) (hv : v < 0 ∨ lN T.length ≤ v) : ex 112 3 [pR (some x), pJ v] M = some (some (pR none), M) := by
  have hl := h.len
  rw [tX11_lineAt]
  by_cases h0 : v < 0
  · exact it_t (cmp_lt0.mpr h0) rfl
  · refine it_f (fun z => h0 (cmp_lt0.mp z)) (rd_i rfl hB.k (rd_i hB.r10.1 hB.r10.2 (clI_i h.size (it_t ?_ rfl))))
    rw [nI_l (by omega), cmp_ge0]
    exact hv.resolve_left h0
theorem c_lineAt {as : List Nat} {ad : Nat → Nat → Nat} {l : Nat} {q : TL} (hB : XB x M) (h : XLa x M as ad T) (hq : T[l]? = some q) : ∃ a, as[l]? = some a ∧ ex 112 3 [pR (some x), pJ (lN l)] M = some (some (pR (some a)), M) ∧ x + 57 < a ∧ cL x M (ad l) q a := by
  have hl := h.len
  have hcl : l < T.length := (List.getElem?_eq_some_iff.mp hq).1
  obtain ⟨a, g0, g1, g2, g3⟩ := h.at hq
  refine ⟨a, g0, ?_, g2, g3⟩
  rw [tX11_lineAt]
  refine it_f (fun z => ?_) (rd_i rfl hB.k (rd_i hB.r10.1 hB.r10.2 (clI_i h.size (it_f (fun z => ?_) (rd_i rfl hB.k (rd_i hB.r10.1 hB.r10.2 ?_))))))
  · have := cmp_lt0.mp z
    rw [I64_lt, lN_toInt (by omega)] at this
    have : (0 : Int64).toInt = 0 := rfl
    omega
  · rw [nI_l (by omega), cmp_ge0, lN_le (by omega) (by omega)] at z
    omega
  · rw [lN_i]
    exact clR_i g1 (ck_s rfl g3.1 rfl)
theorem op_count (h : Inv x E R F W O T S jW jO M) (e : Int32) : Op x W O T jW jO M (fun M => ex 105 2 [pR (some x), pI e] M) (fun M => ex 229 2 [pR (some (x + 12)), pI e] M) := by
  obtain ⟨hX, hM, aw⟩ := id h
  obtain ⟨⟨hB, hv, hL⟩, hE, hR, hF, hW, hO, ⟨as, ad, hT⟩, hS⟩ := id hX
  obtain ⟨mB, mE, mR, mF, mW, mO, mL, mS⟩ := id hM
  have hT : XLa x M as ad T := hT
  have key : ∃ v, ex 105 2 [pR (some x), pI e] M = some (some (pI v), M) ∧ ex 229 2 [pR (some (x + 12)), pI e] M = some (some (pI v), M) := by
    rw [tX11_count, tX12_count]
    by_cases h0 : e = Int32.ofInt 0
    · exact ⟨_, it_t h0 (rd_i rfl hB.k (rd_i hB.r1.1 hB.r1.2 (clI_i hE.size rfl))), it_t h0 (rd_i rfl mB.k (by rw [mE.1]))⟩
    rw [if_neg h0, if_neg h0]
    by_cases h1 : e = Int32.ofInt 1
    · exact ⟨_, it_t h1 (rd_i rfl hB.k (rd_i hB.r2.1 hB.r2.2 (clI_i hR.size rfl))), it_t h1 (rd_i rfl mB.k (by rw [mR.1]))⟩
    rw [if_neg h1, if_neg h1]
    by_cases h2 : e = Int32.ofInt 2
    · exact ⟨_, it_t h2 (rd_i rfl hB.k (rd_i hB.r3.1 hB.r3.2 (clI_i hF.size rfl))), it_t h2 (rd_i rfl mB.k (by rw [mF.1]))⟩
    rw [if_neg h2, if_neg h2]
    by_cases h3 : e = Int32.ofInt 3
    · exact ⟨nI W.length, it_t h3 (rd_i rfl hB.k (by rw [hW.2])), it_t h3 (rd_i rfl mB.k (by rw [mW.1]))⟩
    rw [if_neg h3, if_neg h3]
    by_cases h4 : e = Int32.ofInt 4
    · exact ⟨nI O.length, it_t h4 (rd_i rfl hB.k (by rw [hO.2])), it_t h4 (rd_i rfl mB.k (by rw [mO.1]))⟩
    rw [if_neg h4, if_neg h4]
    by_cases h5 : e = Int32.ofInt 5
    · exact ⟨_, it_t h5 (rd_i rfl hB.k (rd_i hB.r10.1 hB.r10.2 (clI_i hT.size rfl))), it_t h5 (rd_i rfl mB.k (by rw [mL.1]))⟩
    rw [if_neg h5, if_neg h5]
    by_cases h6 : e = Int32.ofInt 6
    · exact ⟨nI S.2.2.2.2.2.1, it_t h6 (rd_i rfl hB.k (by rw [hS.2.2.2.2.2.2.1])), it_t h6 (rd_i rfl mB.k (by rw [mS.2.2.2.2.2.2.1]))⟩
    rw [if_neg h6, if_neg h6]
    by_cases h7 : e = Int32.ofInt 7
    · exact ⟨S.2.2.2.2.2.2.1, it_t h7 (rd_i rfl hB.k (by rw [hS.2.2.2.2.2.2.2.1])), it_t h7 (rd_i rfl mB.k (by rw [mS.2.2.2.2.2.2.2]))⟩
    rw [if_neg h7, if_neg h7]
    exact ⟨_, rfl, rfl⟩
  obtain ⟨v, k1, k2⟩ := key
  exact Op.keep h k1 k2
theorem op_line (h : Inv x E R F W O T S jW jO M) (e f : Int32) : Op x W O T jW jO M (fun M => ex 102 4 [pR (some x), pI e, pI f] M) (fun M => ex 224 3 [pR (some (x + 12)), pI e, pI f] M) := by
  obtain ⟨hX, hM, aw⟩ := id h
  obtain ⟨⟨hB, hv, hL⟩, hE, hR, hF, hW, hO, ⟨as, ad, hT⟩, hS⟩ := id hX
  obtain ⟨mB, mE, mR, mF, mW, mO, mL, mS⟩ := id hM
  have hT : XLa x M as ad T := hT
  have hl := mL.2.1
  rcases oob_or e T.length (by omega) with ho | ⟨k, hk, rfl⟩
  · refine Op.keep h (v := pI (-1)) ?_ ?_
    · show ex 102 4 [pR (some x), pI e, pI f] M = _
      rw [tX11_line]
      exact rd_i rfl hB.k (clR_i (c_lineAt_no hB hT (oobL (by omega) ho)) (it_t rfl rfl))
    · show ex 224 3 [pR (some (x + 12)), pI e, pI f] M = _
      rw [tX12_line]
      refine rd_i rfl mB.k ?_
      rw [mL.1]
      refine clI_i (m_in _ _ _ M) ?_
      rw [inB_no (by omega) ho]
      exact it_f (not_not_intro rfl) rfl
  · have hq : T[k]? = some T[k] := List.getElem?_eq_getElem hk
    generalize T[k] = q at hq
    obtain ⟨a, -, c112, -, c1, c2, c3, c4, -, -, -, pq, g1, g2, g3, -⟩ := c_lineAt hB hT hq
    rw [← nI_l (by omega)] at c112
    obtain ⟨y1, y2, y3, y4, y5, -⟩ := mL.2.2 k q hq
    have pm : ∀ {r : Option Rt}, (fun M2 => if f = Int32.ofInt (0) then rd (some (x + 12)) 12 M2 fun a4 => ix 20 30 (gR M2 814 a4) (nI k) M2 fun a5 j6 => some (some (pI (aI M2 a5 j6)), M2) else if f = Int32.ofInt (1) then rd (some (x + 12)) 12 M2 fun a7 => ix 20 30 (gR M2 815 a7) (nI k) M2 fun a8 j9 => some (some (pI (aI M2 a8 j9)), M2) else if f = Int32.ofInt (2) then rd (some (x + 12)) 12 M2 fun a10 => ix 20 30 (gR M2 816 a10) (nI k) M2 fun a11 j12 => some (some (pI (aI M2 a11 j12)), M2) else if f = Int32.ofInt (3) then rd (some (x + 12)) 12 M2 fun a13 => ix 20 30 (gR M2 823 a13) (nI k) M2 fun a14 j15 => some (some (pI (aI M2 a14 j15)), M2) else some (some (pI (-1)), M2)) M = r → ex 224 3 [pR (some (x + 12)), pI (nI k), pI f] M = r := fun hr => by
      rw [tX12_line]
      refine rd_i rfl mB.k ?_
      rw [mL.1]
      refine clI_i (m_in _ _ _ M) ?_
      rw [inB_yes (by omega) hk]
      exact it_t (by decide) hr
    have pc : ∀ {r : Option Rt}, (if f = Int32.ofInt 0 then rd (some a) 6 M fun a4 => some (some (pI (gI M 384 a4)), M) else if f = Int32.ofInt 1 then rd (some a) 6 M fun a5 => some (some (pI (gI M 385 a5)), M) else if f = Int32.ofInt 2 then rd (some a) 6 M fun a6 => al (gR M 386 a6) M fun a7 => some (some (pI (nI (ln M a7))), M) else if f = Int32.ofInt 3 then rd (some a) 6 M fun a8 => some (some (pI (gI M 389 a8)), M) else some (some (pI (-1)), M)) = r → ex 102 4 [pR (some x), pI (nI k), pI f] M = r := fun hr => by
      rw [tX11_line]
      exact rd_i rfl hB.k (clR_i c112 (it_f (fun q => nomatch q) hr))
    by_cases h0 : f = Int32.ofInt 0
    · exact Op.keep h (v := pI (nI q.1)) (pc (it_t h0 (rd_i rfl c1 (by rw [c2])))) (pm (it_t h0 (rd_i rfl mB.k (ix_m mB.a31 rfl (by omega) (by omega) (by rw [y2])))))
    by_cases h1 : f = Int32.ofInt 1
    · exact Op.keep h (v := pI q.2.1) (pc (it_f h0 (it_t h1 (rd_i rfl c1 (by rw [c3]))))) (pm (it_f h0 (it_t h1 (rd_i rfl mB.k (ix_m mB.a32 rfl (by omega) (by omega) (by rw [y3]))))))
    by_cases h2 : f = Int32.ofInt 2
    · exact Op.keep h (v := pI (nI q.2.2.1.length)) (pc (it_f h0 (it_f h1 (it_t h2 (rd_i rfl c1 (al_i g1 (by rw [g2]; omega) (by rw [g3]))))))) (pm (it_f h0 (it_f h1 (it_t h2 (rd_i rfl mB.k (ix_m mB.a33 rfl (by omega) (by omega) (by rw [y4])))))))
    by_cases h3 : f = Int32.ofInt 3
    · exact Op.keep h (v := pI q.2.2.2) (pc (it_f h0 (it_f h1 (it_f h2 (it_t h3 (rd_i rfl c1 (by rw [c4]))))))) (pm (it_f h0 (it_f h1 (it_f h2 (it_t h3 (rd_i rfl mB.k (ix_m mB.a40 rfl (by omega) (by omega) (by rw [y5]))))))))
    exact Op.keep h (v := pI (-1)) (pc (it_f h0 (it_f h1 (it_f h2 (it_f h3 rfl))))) (pm (it_f h0 (it_f h1 (it_f h2 (it_f h3 rfl)))))
theorem op_told (h : Inv x E R F W O T S jW jO M) (e f : Int32) : OpJ x W O T jW jO M (fun M => ex 93 5 [pR (some x), pI e, pI f] M) (fun M => ex 204 3 [pR (some (x + 12)), pI e, pI f] M) := by
  obtain ⟨hX, hM, aw⟩ := id h
  obtain ⟨⟨hB, hv, hL⟩, hE, hR, hF, hW, hO, -, hS⟩ := id hX
  obtain ⟨mB, mE, mR, mF, mW, mO, mL, mS⟩ := id hM
  have hOl := mO.2.1
  have hRl := mR.2.1
  rcases oob_or e O.length (by omega) with ho | ⟨o, hk, rfl⟩
  · have c111 := c_objAt_no hB hO (oobL (by omega) ho)
    refine Op.keep h (v := pJ (-9223372036854775808)) ?_ ?_
    · show ex 93 5 [pR (some x), pI e, pI f] M = _
      rw [tX11_told]
      exact rd_i rfl hB.k (clR_i c111 (it_t rfl rfl))
    · show ex 204 3 [pR (some (x + 12)), pI e, pI f] M = _
      rw [tX12_told]
      exact rd_i rfl mB.k (clI_i (m_isObj_no mB mO ho) (it_t rfl rfl))
  have hq : O[o]? = some O[o] := List.getElem?_eq_getElem hk
  generalize O[o] = w at hq
  obtain ⟨k1, c111, -, co⟩ := c_objAt hB hO hq
  rw [← nI_l (by omega)] at c111
  obtain ⟨rc, hrc, hlen, -, -⟩ := aw.2.2.2.1 o w hq
  have hwr : w.1 < R.length := (List.getElem?_eq_some_iff.mp hrc).1
  obtain ⟨ra, c108, -, cr, -, -⟩ := c_recAt hB hR hrc
  obtain ⟨u1, u2, u3, u4, u5⟩ := co
  obtain ⟨v1, -, -, v4, v5⟩ := u5 w rfl
  obtain ⟨y1, y2, y3, y4⟩ := mO.2.2 o w hq
  obtain ⟨⟨z1, z2, -⟩, -⟩ := mR.2.2.1 w.1 rc hrc
  rcases oob_or f rc.1.length (by omega) with ho | ⟨p, hp, rfl⟩
  · refine Op.keep h (v := pJ (-9223372036854775808)) ?_ ?_
    · show ex 93 5 [pR (some x), pI (nI o), pI f] M = _
      rw [tX11_told]
      refine rd_i rfl hB.k (clR_i c111 (it_f (fun q => nomatch q) (rd_i rfl u1 (rd_i rfl hB.k ?_))))
      rw [v1]
      exact clR_i c108 (it_f (fun q => nomatch q) (rd_i rfl cr.1 (clR_i (c_partAt_no cr ho) (it_t rfl rfl))))
    · show ex 204 3 [pR (some (x + 12)), pI (nI o), pI f] M = _
      rw [tX12_told]
      refine rd_i rfl mB.k (clI_i (m_isObj mB mO hk) (it_f (by decide) (rd_i rfl mB.k (rd_i rfl mB.k (ix_m mB.a25 rfl (by omega) (by omega) (ix_m mB.a5 y2 (by omega) (by omega) ?_))))))
      rw [z2]
      refine clI_i (m_in _ _ _ M) ?_
      rw [inB_no (by omega) ho]
      exact it_t rfl rfl
  · obtain ⟨t, ht⟩ : ∃ t, rc.1[p]? = some t := ⟨_, List.getElem?_eq_getElem hp⟩
    obtain ⟨v, hvp⟩ : ∃ v, w.2.1[p]? = some v := ⟨_, List.getElem?_eq_getElem (by omega)⟩
    obtain ⟨pk, c65, -, cp, -⟩ := c_partAt cr ht
    refine Op.keep h (v := pJ v) ?_ ?_
    · show ex 93 5 [pR (some x), pI (nI o), pI (nI p)] M = _
      rw [tX11_told]
      refine rd_i rfl hB.k (clR_i c111 (it_f (fun q => nomatch q) (rd_i rfl u1 (rd_i rfl hB.k ?_))))
      rw [v1]
      refine clR_i c108 (it_f (fun q => nomatch q) (rd_i rfl cr.1 (clR_i c65 (it_f (fun q => nomatch q) (rd_i rfl u1 (ix_i u2 (Or.inl u3) rfl (by omega) (by omega) ?_))))))
      rw [v5 p v hvp]
    · show ex 204 3 [pR (some (x + 12)), pI (nI o), pI (nI p)] M = _
      rw [tX12_told]
      refine rd_i rfl mB.k (clI_i (m_isObj mB mO hk) (it_f (by decide) (rd_i rfl mB.k (rd_i rfl mB.k (ix_m mB.a25 rfl (by omega) (by omega) (ix_m mB.a5 y2 (by omega) (by omega) ?_))))))
      rw [z2]
      refine clI_i (m_in _ _ _ M) ?_
      rw [inB_yes (by omega) hp]
      refine it_f (by decide) (rd_i rfl mB.k (ix_m mB.a26 (m6 o p) (by omega) (by omega) ?_))
      rw [y4 p v hvp]
end OPS
