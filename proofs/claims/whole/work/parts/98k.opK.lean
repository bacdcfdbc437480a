/-! CALLS: work -/
section OPS
variable {x : Nat} {E E' : List TE} {R R' : List TR} {F F' : List TF} {W W' : List TW} {O O' : List TO} {T T' : List TL} {S S' : TS} {jW jO jW' jO' n : Nat} {M M' M1 : Mem}
def onc (b c n : Int32) : Int32 := if b = 0 then n + c else (n + c) * 3 - 1
def twi (b c n : Int32) : Int32 := if b = 0 then onc b c (onc b c n) else if c - c / 2 * 2 = 0 then onc b c (onc b c n) else n - onc b c n
theorem c_once {k : Nat} {r : TC} (h : cC M r k) (c n : Int32) : ex 43 3 [pR (some k), pI c, pI n] M = some (some (pI (onc r.2 c n)), M) := by
  rw [tX2_once]
  refine rd_i rfl h.1 ?_
  rw [h.2.2]
  unfold onc
  by_cases h0 : r.2 = 0
  · rw [if_pos h0, if_pos h0]
  · rw [if_neg h0, if_neg h0]
theorem c_twice {k : Nat} {r : TC} (h : cC M r k) (c n : Int32) : ex 44 4 [pR (some k), pI c, pI n] M = some (some (pI (twi r.2 c n)), M) := by
  rw [tX2_twice]
  refine rd_i rfl h.1 (clI_i (c_once h c n) (rd_i rfl h.1 ?_))
  rw [h.2.2]
  unfold twi
  by_cases h0 : r.2 = 0
  · rw [if_pos h0, if_pos h0]
    exact rd_i rfl h.1 (clI_i (c_once h c _) rfl)
  · rw [if_neg h0, if_neg h0]
    refine gd_i (by decide) ?_
    by_cases h1 : c - c / 2 * 2 = 0
    · rw [if_pos h1, if_pos h1]
      exact rd_i rfl h.1 (clI_i (c_once h c _) rfl)
    · rw [if_neg h1, if_neg h1]
theorem m_once {m e c : Nat} {q : TE} {r : TC} (mB : MB m M) (mE : ME m M E) (hq : E[e]? = some q) (hr : q.1[c]? = some r) (n : Int32) : ex 210 4 [pR (some m), pI (nI e), pI (nI c), pI n] M = some (some (pI (onc r.2 (nI c) n)), M) := by
  have he : e < E.length := (List.getElem?_eq_some_iff.mp hq).1
  have hc : c < q.1.length := (List.getElem?_eq_some_iff.mp hr).1
  have he4 := mE.2.1
  obtain ⟨z1, z2, z3, -⟩ := mE.2.2.1 e q hq
  obtain ⟨w1, w2, w3⟩ := z3 c r hr
  rw [tX12_once]
  refine rd_i rfl mB.k (ix_m mB.a3 (m8 e c) (by omega) (by omega) ?_)
  rw [w2]
  unfold onc
  by_cases h0 : r.2 = 0
  · rw [if_pos h0, if_pos h0]
  · rw [if_neg h0, if_neg h0, Int32.mul_comm]
theorem odd8 : ∀ k, k < 8 → (nI k - nI k / 2 * 2 = 0 ∧ ¬ nI k - nI k / 2 * 2 = 1) ∨ (nI k - nI k / 2 * 2 = 1 ∧ ¬ nI k - nI k / 2 * 2 = 0) := by decide +kernel
def wrk (b c w n : Int32) : Int64 := (if w = 0 then onc b c n else if w = 1 then twi b c n else n + c).toInt64
theorem op_work (h : Inv x E R F W O T S jW jO M) (e c w n : Int32) : OpJ x W O T jW jO M (fun M => ex 98 8 [pR (some x), pI e, pI c, pI w, pI n] M) (fun M => ex 211 8 [pR (some (x + 12)), pI e, pI c, pI w, pI n] M) := by
  obtain ⟨hX, hM, aw⟩ := id h
  obtain ⟨⟨hB, hv, hL⟩, hE, hR, hF, hW, hO, -, hS⟩ := id hX
  obtain ⟨mB, mE, mR, mF, mW, mO, mL, mS⟩ := id hM
  have hEl := mE.2.1
  have hRl := mR.2.1
  have hSl := aw.2.2.2.2.2.1
  have i3 : (2 : Int64) = (nI 3 - 1).toInt64 := by decide
  rcases oob_or e E.length (by omega) with ho | ⟨k, hk, rfl⟩
  · refine Op.keep h (v := pJ (-9223372036854775808)) ?_ ?_
    · show ex 98 8 [pR (some x), pI e, pI c, pI w, pI n] M = _
      rw [tX11_work]
      exact rd_i rfl hB.k (clR_i (c_enumAt_no hB hE ho) (it_t rfl rfl))
    · show ex 211 8 [pR (some (x + 12)), pI e, pI c, pI w, pI n] M = _
      rw [tX12_work]
      exact rd_i rfl mB.k (clI_i (m_isConst_no0 mB mE ho) (it_t rfl rfl))
  obtain ⟨q, hq⟩ : ∃ q, E[k]? = some q := ⟨_, List.getElem?_eq_getElem hk⟩
  obtain ⟨a, c107, hxa, hc, -⟩ := c_enumAt hB hE hq
  have hq8 := (mE.2.2.1 k q hq).1
  have h160 : (oob c q.1.length ∧ ex 160 3 [pR (some (x + 12)), pI (nI k), pI c] M = some (some (pI 0), M)) ∨ ∃ j, j < q.1.length ∧ c = nI j := by
    rcases oob_or c q.1.length (by omega) with hoc | hoc
    · exact Or.inl ⟨hoc, m_isConst_no mB mE hq hoc⟩
    · exact Or.inr hoc
  rcases oob_or w 3 (by omega) with how | ⟨w', hw, rfl⟩
  · refine Op.keep h (v := pJ (-9223372036854775808)) ?_ ?_
    · show ex 98 8 [pR (some x), pI (nI k), pI c, pI w, pI n] M = _
      rw [tX11_work]
      refine rd_i rfl hB.k (clR_i c107 (it_f (fun q => nomatch q) ?_))
      by_cases h0 : w < 0
      · exact it_t h0 rfl
      · refine it_f h0 (it_f (fun z => ?_) rfl)
        have := how.resolve_left h0
        rw [I32_le] at this z
        have e3 : (nI 3).toInt = 3 := rfl
        have e2 : (2 : Int32).toInt = 2 := rfl
        omega
    · show ex 211 8 [pR (some (x + 12)), pI (nI k), pI c, pI w, pI n] M = _
      rw [tX12_work]
      rcases h160 with ⟨-, h160⟩ | ⟨j, hj, rfl⟩
      · exact rd_i rfl mB.k (clI_i h160 (it_t rfl rfl))
      · refine rd_i rfl mB.k (clI_i (m_isConst mB mE hq hj) (it_f (by decide) ?_))
        rw [i3]
        refine clI_i (m_in _ _ _ M) ?_
        rw [inB_no (by omega) how]
        exact it_f (not_not_intro rfl) rfl
  have w0 : ¬ nI w' < 0 := nI_pos (by omega)
  have w2 : nI w' ≤ 2 := by
    rw [I32_le, nI_toInt (by omega)]
    have : (2 : Int32).toInt = 2 := rfl
    omega
  rcases h160 with ⟨hoc, h160⟩ | ⟨j, hj, rfl⟩
  · refine Op.keep h (v := pJ (-9223372036854775808)) ?_ ?_
    · show ex 98 8 [pR (some x), pI (nI k), pI c, pI (nI w'), pI n] M = _
      rw [tX11_work]
      exact rd_i rfl hB.k (clR_i c107 (it_f (fun q => nomatch q) (it_f w0 (it_t w2 (rd_i rfl hc.1 (clR_i (c_constAt_no hc (oobL (by omega) hoc)) (it_t rfl rfl)))))))
    · show ex 211 8 [pR (some (x + 12)), pI (nI k), pI c, pI (nI w'), pI n] M = _
      rw [tX12_work]
      exact rd_i rfl mB.k (clI_i h160 (it_t rfl rfl))
  obtain ⟨r, hr⟩ : ∃ r, q.1[j]? = some r := ⟨_, List.getElem?_eq_getElem hj⟩
  obtain ⟨kc, c46, -, cc, -⟩ := c_constAt hc hr
  rw [← nI_l (by omega)] at c46
  obtain ⟨M1, e117, hX1, f1⟩ := c_startE hX hq hSl hEl hRl
  obtain ⟨aw1, she⟩ := aw_stE aw k
  obtain ⟨q1, hq1, hqq⟩ := she.2 k q hq
  have cc1 := cc.fr f1 ⟨by decide, by decide⟩
  generalize hst : stE E S k = st at e117 hX1 aw1 she hq1
  refine Op.chg (E' := st.2.1) (S' := st.2.2) (v := pJ (if st.1 = 0 then wrk r.2 (nI j) (nI w') n else -9223372036854775808 + st.1.toInt64)) h (M1 := M1) ?_ (f1.mo (n' := 0) (Nat.le_refl _) (fun k q => by rcases q with q | q | q <;> (subst q; decide)) (fun _ q => q.elim) (fun d q => by omega) (fun _ q => q.elim)) hX1 (fun hM1 => ?_) aw1 (by omega)
  · show ex 98 8 [pR (some x), pI (nI k), pI (nI j), pI (nI w'), pI n] M = _
    rw [tX11_work]
    refine rd_i rfl hB.k (clR_i c107 (it_f (fun q => nomatch q) (it_f w0 (it_t w2 (rd_i rfl hc.1 (clR_i c46 (it_f (fun q => nomatch q) (rd_i rfl hB.k (clI_i e117 ?_)))))))))
    by_cases h0 : st.1 = 0
    · rw [if_pos h0, if_pos h0]
      unfold wrk
      by_cases k0 : nI w' = 0
      · rw [if_pos k0]
        exact it_f (not_not_intro k0) (rd_i rfl cc1.1 (clI_i (c_once cc1 _ _) rfl))
      · rw [if_neg k0]
        by_cases k1 : nI w' = 1
        · rw [if_pos k1]
          exact it_t k0 (it_f (not_not_intro k1) (rd_i rfl cc1.1 (clI_i (c_twice cc1 _ _) rfl)))
        · rw [if_neg k1]
          exact it_t k0 (it_t k1 rfl)
    · rw [if_neg h0, if_neg h0]
  · obtain ⟨M2, e187, cu, hM2⟩ := m_startE hM1 hq hSl
    rw [hst] at e187 hM2
    have hr1 : q1.1[j]? = some r := by rw [hqq]; exact hr
    have hb2 := (hM2.2.1.2.2.1 k q1 hq1).2.2.1 j r hr1
    refine ⟨M2, ?_, cu, hM2⟩
    show ex 211 8 [pR (some (x + 12)), pI (nI k), pI (nI j), pI (nI w'), pI n] M1 = _
    rw [tX12_work]
    refine rd_i rfl hM1.1.k (clI_i (m_isConst hM1.1 hM1.2.1 hq hj) (it_f (by decide) ?_))
    rw [i3]
    refine clI_i (m_in _ _ _ M1) ?_
    rw [inB_yes (by omega) hw]
    refine it_t (by decide) (rd_i rfl hM1.1.k (clI_i (v := st.1) (M1 := M2) (by rw [show (10 : Int32) + nI k = nI (10 + k) from nI_add 10 k]; exact e187) ?_))
    by_cases h0 : st.1 = 0
    · rw [if_pos h0, if_pos h0]
      unfold wrk
      by_cases k2 : nI w' = 2
      · rw [if_neg (show ¬ nI w' = 0 by rw [k2]; decide), if_neg (show ¬ nI w' = 1 by rw [k2]; decide)]
        exact it_f (not_not_intro k2) rfl
      · refine it_t k2 (rd_i rfl hM2.1.k (clI_i (m_once hM2.1 hM2.2.1 hq1 hr1 n) (rd_i rfl hM2.1.k (ix_m hM2.1.a3 (m8 k j) (by omega) (by omega) ?_))))
        rw [hb2.2.1]
        have k01 : nI w' = 0 ∨ (¬ nI w' = 0 ∧ nI w' = 1) := by
          have : w' = 0 ∨ w' = 1 ∨ w' = 2 := by omega
          rcases this with z | z | z
          · subst z; exact Or.inl rfl
          · subst z; exact Or.inr ⟨by decide, rfl⟩
          · subst z; exact absurd rfl k2
        by_cases b0 : r.2 = 0
        · rw [if_pos b0]
          rcases k01 with k0 | ⟨k0, k1⟩
          · rw [if_pos k0]
            exact it_f (not_not_intro k0) rfl
          · rw [if_neg k0, if_pos k1]
            refine it_t k0 (it_t rfl (rd_i rfl hM2.1.k (clI_i (m_once hM2.1 hM2.2.1 hq1 hr1 _) ?_)))
            unfold twi
            rw [if_pos b0]
        · rw [if_neg b0]
          refine gd_i (by decide) ?_
          rcases odd8 j (by omega) with ⟨o1, o2⟩ | ⟨o1, o2⟩
          · rw [if_pos o2]
            rcases k01 with k0 | ⟨k0, k1⟩
            · rw [if_pos k0]
              exact it_f (not_not_intro k0) rfl
            · rw [if_neg k0, if_pos k1]
              refine it_t k0 (it_t rfl (rd_i rfl hM2.1.k (clI_i (m_once hM2.1 hM2.2.1 hq1 hr1 _) ?_)))
              unfold twi
              rw [if_neg b0, if_pos o1]
          · rw [if_neg (not_not_intro o1)]
            rcases k01 with k0 | ⟨k0, k1⟩
            · rw [if_pos k0]
              exact it_f (not_not_intro k0) rfl
            · rw [if_neg k0, if_pos k1]
              refine it_t k0 (it_f (by decide) ?_)
              unfold twi
              rw [if_neg b0, if_neg o2]
    · rw [if_neg h0, if_neg h0]
end OPS
