/-! CALLS: about, named, work -/
section OPS
variable {x : Nat} {E E' : List TE} {R R' : List TR} {F F' : List TF} {W W' : List TW} {O O' : List TO} {T T' : List TL} {S S' : TS} {jW jO jW' jO' n : Nat} {M M' M1 : Mem}
theorem rt_inj {a b : Nat} {M : Mem} (h : (some (some (pR (some a)), M) : Option Rt) = some (some (pR (some b)), M)) : a = b := by
  injection h with h; injection h with h; injection h with h; injection h with h; injection h with h; injection h with h; injection h
/-- an object of a list that has not changed stays at its address -/
theorem isO.stay {α β : Type} {l i a : Nat} {P : α → Nat → Prop} {P' : β → Nat → Prop} {xs : List α} {xs' : List β} {q : α} {q' : β} (h : isO M x l P xs) (h' : isO M' x l P' xs') (hl : ∀ as, isL M l as → isL M' l as) (hi : xs[i]? = some q) (hi' : xs'[i]? = some q') (hg : ex 16 2 [pR (some l), pI (nI i)] M = some (some (pR (some a)), M)) : ex 16 2 [pR (some l), pI (nI i)] M' = some (some (pR (some a)), M') ∧ x + 57 < a ∧ P' q' a := by
  obtain ⟨as, l1, l2, l3, l4⟩ := h
  have hil : i < xs.length := (List.getElem?_eq_some_iff.mp hi).1
  have hias : i < as.length := by omega
  have ha : as[i]? = some as[i] := List.getElem?_eq_getElem hias
  have e1 := L_get l1 ha
  have e2 := L_get (hl as l1) ha
  rw [hg] at e1
  have := rt_inj e1
  obtain ⟨a', g1, g2, g3, -⟩ := isO.at h' hi'
  rw [g1] at e2
  have w := rt_inj e2
  have : a' = a := by omega
  subst this
  exact ⟨g1, g2, g3⟩
theorem c_enum_st {k a : Nat} {q q' : TE} (hB : XB x M) (hE : XE x M E) (hq : E[k]? = some q) (c107 : ex 107 2 [pR (some x), pI (nI k)] M = some (some (pR (some a)), M)) (hE' : XE x M' E') (hq' : E'[k]? = some q') (hl : ∀ as, isL M (x + 1) as → isL M' (x + 1) as) : cE x M' q' a := by
  obtain ⟨a1, h1, h2, h3, h4, -⟩ := isO.at hE hq
  have hk : k < E.length := (List.getElem?_eq_some_iff.mp hq).1
  have hl0 := isO.len hE
  have e : ex 107 2 [pR (some x), pI (nI k)] M = some (some (pR (some a1)), M) := by
    rw [tX11_enumerationAt]
    exact it_f (nI_pos (by omega)) (rd_i rfl hB.k (rd_i hB.r1.1 hB.r1.2 (clI_i hE.size (it_f (nI_ge hk (by omega)) (rd_i rfl hB.k (rd_i hB.r1.1 hB.r1.2 (clR_i h1 (ck_s rfl h3.1 rfl))))))))
  rw [c107] at e
  have := rt_inj e
  subst this
  exact (isO.stay hE hE' hl hq hq' h1).2.2
theorem op_about (h : Inv x E R F W O T S jW jO M) (e f : Int32) : Op x W O T jW jO M (fun M => ex 106 4 [pR (some x), pI e, pI f] M) (fun M => ex 230 3 [pR (some (x + 12)), pI e, pI f] M) := by
  obtain ⟨hX, hM, aw⟩ := id h
  obtain ⟨⟨hB, hv, hL⟩, hE, hR, hF, hW, hO, -, hS⟩ := id hX
  obtain ⟨mB, mE, mR, mF, mW, mO, mL, mS⟩ := id hM
  have hEl := mE.2.1
  have hRl := mR.2.1
  have hFl := mF.2.1
  by_cases f0 : f = 0
  · subst f0
    rcases oob_or e E.length (by omega) with ho | ⟨k, hk, rfl⟩
    · refine Op.keep h (v := pI (-1)) ?_ ?_
      · show ex 106 4 [pR (some x), pI e, pI 0] M = _
        rw [tX11_about]
        exact it_f (not_not_intro rfl) (rd_i rfl hB.k (clR_i (c_enumAt_no hB hE ho) (it_t rfl rfl)))
      · show ex 230 3 [pR (some (x + 12)), pI e, pI 0] M = _
        rw [tX12_about]
        exact it_t rfl (rd_i rfl mB.k (clI_i (m_isEnum_no mB mE ho) (it_t rfl rfl)))
    · obtain ⟨q, hq⟩ : ∃ q, E[k]? = some q := ⟨_, List.getElem?_eq_getElem hk⟩
      obtain ⟨a, c107, -, ⟨c1, c2, -, -, -, c6⟩, -⟩ := c_enumAt hB hE hq
      refine Op.keep h (v := pI (nI q.1.length)) ?_ ?_
      · show ex 106 4 [pR (some x), pI (nI k), pI 0] M = _
        rw [tX11_about]
        exact it_f (not_not_intro rfl) (rd_i rfl hB.k (clR_i c107 (it_f (fun q => nomatch q) (rd_i rfl c1 (rd_i c2 c6.k (clI_i c6.size rfl))))))
      · show ex 230 3 [pR (some (x + 12)), pI (nI k), pI 0] M = _
        rw [tX12_about]
        exact it_t rfl (rd_i rfl mB.k (clI_i (m_isEnum mB mE hk) (it_f (by decide) (rd_i rfl mB.k (ix_m mB.a1 rfl (by omega) (by omega) (by rw [(mE.2.2.1 k q hq).2.1]))))))
  by_cases f1 : f = 1
  · subst f1
    rcases oob_or e R.length (by omega) with ho | ⟨k, hk, rfl⟩
    · refine Op.keep h (v := pI (-1)) ?_ ?_
      · show ex 106 4 [pR (some x), pI e, pI 1] M = _
        rw [tX11_about]
        exact it_t f0 (it_t rfl (rd_i rfl hB.k (clR_i (c_recAt_no hB hR ho) (it_t rfl rfl))))
      · show ex 230 3 [pR (some (x + 12)), pI e, pI 1] M = _
        rw [tX12_about]
        exact it_f f0 (it_t rfl (rd_i rfl mB.k (clI_i (m_isRec_no mB mR ho) (it_t rfl rfl))))
    · obtain ⟨q, hq⟩ : ∃ q, R[k]? = some q := ⟨_, List.getElem?_eq_getElem hk⟩
      obtain ⟨a, c108, -, ⟨c1, c2, c3, c4, c5, c6⟩, -⟩ := c_recAt hB hR hq
      refine Op.keep h (v := pI (nI q.1.length)) ?_ ?_
      · show ex 106 4 [pR (some x), pI (nI k), pI 1] M = _
        rw [tX11_about]
        exact it_t f0 (it_t rfl (rd_i rfl hB.k (clR_i c108 (it_f (fun q => nomatch q) (it_f (not_not_intro rfl) (rd_i rfl c1 (rd_i c2 c5.k (clI_i c5.size rfl))))))))
      · show ex 230 3 [pR (some (x + 12)), pI (nI k), pI 1] M = _
        rw [tX12_about]
        exact it_f f0 (it_t rfl (rd_i rfl mB.k (clI_i (m_isRec mB mR hk) (it_f (by decide) (rd_i rfl mB.k (ix_m mB.a5 rfl (by omega) (by omega) (by rw [(mR.2.2.1 k q hq).1.2.1])))))))
  by_cases f2 : f = 2
  · subst f2
    rcases oob_or e R.length (by omega) with ho | ⟨k, hk, rfl⟩
    · refine Op.keep h (v := pI (-1)) ?_ ?_
      · show ex 106 4 [pR (some x), pI e, pI 2] M = _
        rw [tX11_about]
        exact it_t f0 (it_f f1 (it_f (not_not_intro rfl) (rd_i rfl hB.k (clR_i (c_recAt_no hB hR ho) (it_t rfl rfl)))))
      · show ex 230 3 [pR (some (x + 12)), pI e, pI 2] M = _
        rw [tX12_about]
        exact it_f f0 (it_f f1 (it_t rfl (rd_i rfl mB.k (clI_i (m_isRec_no mB mR ho) (it_t rfl rfl)))))
    · obtain ⟨q, hq⟩ : ∃ q, R[k]? = some q := ⟨_, List.getElem?_eq_getElem hk⟩
      obtain ⟨a, c108, -, ⟨c1, c2, c3, c4, c5, c6⟩, -⟩ := c_recAt hB hR hq
      refine Op.keep h (v := pI (nI q.2.1.length)) ?_ ?_
      · show ex 106 4 [pR (some x), pI (nI k), pI 2] M = _
        rw [tX11_about]
        exact it_t f0 (it_f f1 (it_f (not_not_intro rfl) (rd_i rfl hB.k (clR_i c108 (it_f (fun q => nomatch q) (it_t f1 (rd_i rfl c1 (rd_i c3 c6.k (clI_i c6.size rfl)))))))))
      · show ex 230 3 [pR (some (x + 12)), pI (nI k), pI 2] M = _
        rw [tX12_about]
        exact it_f f0 (it_f f1 (it_t rfl (rd_i rfl mB.k (clI_i (m_isRec mB mR hk) (it_f (by decide) (rd_i rfl mB.k (ix_m mB.a10 rfl (by omega) (by omega) (by rw [(mR.2.2.1 k q hq).2.1.2.1]))))))))
  by_cases f3 : f = 3
  · subst f3
    rcases oob_or e F.length (by omega) with ho | ⟨k, hk, rfl⟩
    · refine Op.keep h (v := pI (-1)) ?_ ?_
      · show ex 106 4 [pR (some x), pI e, pI 3] M = _
        rw [tX11_about]
        exact it_t f0 (it_f f1 (it_t f2 (it_t rfl (rd_i rfl hB.k (clR_i (c_famAt_no hB hF ho) (it_t rfl rfl))))))
      · show ex 230 3 [pR (some (x + 12)), pI e, pI 3] M = _
        rw [tX12_about]
        exact it_f f0 (it_f f1 (it_f f2 (it_t rfl (rd_i rfl mB.k (clI_i (m_isFam_no mB mF ho) (it_t rfl rfl))))))
    · obtain ⟨q, hq⟩ : ∃ q, F[k]? = some q := ⟨_, List.getElem?_eq_getElem hk⟩
      obtain ⟨a, c109, -, ⟨c1, ⟨c2, c3, -⟩, -⟩, -⟩ := c_famAt hB hF hq
      refine Op.keep h (v := pI (nI q.1.length)) ?_ ?_
      · show ex 106 4 [pR (some x), pI (nI k), pI 3] M = _
        rw [tX11_about]
        exact it_t f0 (it_f f1 (it_t f2 (it_t rfl (rd_i rfl hB.k (clR_i c109 (it_f (fun q => nomatch q) (it_f (not_not_intro rfl) (rd_i rfl c1 (by rw [c3])))))))))
      · show ex 230 3 [pR (some (x + 12)), pI (nI k), pI 3] M = _
        rw [tX12_about]
        exact it_f f0 (it_f f1 (it_f f2 (it_t rfl (rd_i rfl mB.k (clI_i (m_isFam mB mF hk) (it_f (by decide) (rd_i rfl mB.k (ix_m mB.a15 rfl (by omega) (by omega) (by rw [(mF.2.2.1 k q hq).2.1])))))))))
  by_cases f4 : f = 4
  · subst f4
    rcases oob_or e F.length (by omega) with ho | ⟨k, hk, rfl⟩
    · refine Op.keep h (v := pI (-1)) ?_ ?_
      · show ex 106 4 [pR (some x), pI e, pI 4] M = _
        rw [tX11_about]
        exact it_t f0 (it_f f1 (it_t f2 (it_f f3 (it_f (not_not_intro rfl) (rd_i rfl hB.k (clR_i (c_famAt_no hB hF ho) (it_t rfl rfl)))))))
      · show ex 230 3 [pR (some (x + 12)), pI e, pI 4] M = _
        rw [tX12_about]
        exact it_f f0 (it_f f1 (it_f f2 (it_f f3 (it_t rfl (rd_i rfl mB.k (clI_i (m_isFam_no mB mF ho) (it_f (not_not_intro rfl) rfl)))))))
    · obtain ⟨q, hq⟩ : ∃ q, F[k]? = some q := ⟨_, List.getElem?_eq_getElem hk⟩
      obtain ⟨a, c109, -, ⟨c1, -, ⟨-, c3, -⟩⟩, -⟩ := c_famAt hB hF hq
      have hlv : q.2 = lvF F k := by rw [(aw.2.1 k q hq).2, lvT_at _ _ _ hk]; rfl
      refine Op.chg (v := pI (nI q.2.length)) h (M1 := M) ?_ (Fr.rf (K := KX) (L := AX x) (AI := AX x) (AJ := AX x) hv hL) hX (fun hM1 => ?_) aw (by omega)
      · show ex 106 4 [pR (some x), pI (nI k), pI 4] M = _
        rw [tX11_about]
        exact it_t f0 (it_f f1 (it_t f2 (it_f f3 (it_f (not_not_intro rfl) (rd_i rfl hB.k (clR_i c109 (it_f (fun q => nomatch q) (it_t f3 (rd_i rfl c1 (by rw [c3]))))))))))
      · obtain ⟨M2, e2, f2'⟩ := m_findLeaves mB mF hk (fun i c hc => by
          cases hr : F[i]? with
          | none => rw [List.getD_eq_getElem?_getD, hr] at hc; simp at hc
          | some r =>
            rw [List.getD_eq_getElem?_getD, hr] at hc
            have hc : c ∈ r.1 := hc
            obtain ⟨j, hj⟩ := List.getElem?_of_mem hc
            have hi : i < F.length := (List.getElem?_eq_some_iff.mp hr).1
            rcases (aw.2.1 i r hr).1 j c hj with ⟨r', y1, y2⟩ | ⟨g, y1, y2⟩
            · exact Or.inl ⟨r', by omega, y2⟩
            · exact Or.inr ⟨g, y1, by omega, y2⟩)
        obtain ⟨⟨mB2, cu, uf⟩, ⟨w1, w2, w3⟩, w4, -⟩ := id f2'
        refine ⟨M2, ?_, cu, hM1.uf uf (mF.cg w1 w2 w3)⟩
        show ex 230 3 [pR (some (x + 12)), pI (nI k), pI 4] M = _
        rw [tX12_about]
        exact it_f f0 (it_f f1 (it_f f2 (it_f f3 (it_t rfl (rd_i rfl mB.k (clI_i (m_isFam mB mF hk) (it_t (by decide) (rd_i rfl mB.k (clV_i e2 (rd_i rfl mB2.k (by rw [w4, hlv])))))))))))
  · refine Op.keep h (v := pI (-1)) ?_ ?_
    · show ex 106 4 [pR (some x), pI e, pI f] M = _
      rw [tX11_about]
      exact it_t f0 (it_f f1 (it_t f2 (it_f f3 (it_t f4 (it_t rfl rfl)))))
    · show ex 230 3 [pR (some (x + 12)), pI e, pI f] M = _
      rw [tX12_about]
      exact it_f f0 (it_f f1 (it_f f2 (it_f f3 (it_f f4 rfl))))
theorem op_named (h : Inv x E R F W O T S jW jO M) (e : Int32) (nm : Int64) : Op x W O T jW jO M (fun M => ex 97 7 [pR (some x), pI e, pJ nm] M) (fun M => ex 209 6 [pR (some (x + 12)), pI e, pJ nm] M) := by
  obtain ⟨hX, hM, aw⟩ := id h
  obtain ⟨⟨hB, hv, hL⟩, hE, hR, hF, hW, hO, -, hS⟩ := id hX
  obtain ⟨mB, mE, mR, mF, mW, mO, mL, mS⟩ := id hM
  have hEl := mE.2.1
  have hRl := mR.2.1
  have hSl := aw.2.2.2.2.2.1
  rcases oob_or e E.length (by omega) with ho | ⟨k, hk, rfl⟩
  · refine Op.keep h (v := pI (-1)) ?_ ?_
    · show ex 97 7 [pR (some x), pI e, pJ nm] M = _
      rw [tX11_named]
      exact rd_i rfl hB.k (clR_i (c_enumAt_no hB hE ho) (it_t rfl rfl))
    · show ex 209 6 [pR (some (x + 12)), pI e, pJ nm] M = _
      rw [tX12_named]
      exact rd_i rfl mB.k (clI_i (m_isEnum_no mB mE ho) (it_f (not_not_intro rfl) rfl))
  obtain ⟨q, hq⟩ : ∃ q, E[k]? = some q := ⟨_, List.getElem?_eq_getElem hk⟩
  obtain ⟨a, c107, hxa, hc, -⟩ := c_enumAt hB hE hq
  obtain ⟨M1, e117, hX1, f1⟩ := c_startE hX hq hSl hEl hRl
  obtain ⟨aw1, she⟩ := aw_stE aw k
  obtain ⟨q1, hq1, hqq⟩ := she.2 k q hq
  have hc1 := c_enum_st hB hE hq c107 hX1.2.1 hq1 (f1.ls id)
  generalize hr : stE E S k = r at e117 hX1 aw1 she hq1
  refine Op.chg (E' := r.2.1) (S' := r.2.2) (v := pI (if r.1 = 0 then (if fndC q1.1 nm 0 = -1 then -18 else fndC q1.1 nm 0) else -10 - r.1)) h (M1 := M1) ?_ (f1.mo (n' := 0) (Nat.le_refl _) (fun k q => by rcases q with q | q | q <;> (subst q; decide)) (fun _ q => q.elim) (fun d q => by omega) (fun _ q => q.elim)) hX1 (fun hM1 => ?_) aw1 (by omega)
  · show ex 97 7 [pR (some x), pI (nI k), pJ nm] M = _
    rw [tX11_named]
    refine rd_i rfl hB.k (clR_i c107 (it_f (fun q => nomatch q) (rd_i rfl hB.k (clI_i e117 ?_))))
    by_cases h0 : r.1 = 0
    · rw [if_pos h0, if_pos h0]
      refine rd_i rfl hc1.1 (clI_i (c_ordinalOf hc1 nm) ?_)
      by_cases h1 : fndC q1.1 nm 0 = -1
      · rw [if_pos h1]
        refine it_f (not_not_intro h1) (clI_i (tX11_answerOf _ _) rfl)
      · rw [if_neg h1]
        exact it_t h1 rfl
    · rw [if_neg h0, if_neg h0]
      exact clI_i (tX11_answerOf _ _) rfl
  · obtain ⟨M2, e187, cu, hM2⟩ := m_startE hM1 hq hSl
    rw [hr] at e187 hM2
    refine ⟨M2, ?_, cu, hM2⟩
    show ex 209 6 [pR (some (x + 12)), pI (nI k), pJ nm] M1 = _
    rw [tX12_named]
    refine rd_i rfl hM1.1.k (clI_i (m_isEnum hM1.1 hM1.2.1 hk) (it_t (by decide) (rd_i rfl hM1.1.k (clI_i (v := r.1) (M1 := M2) (by rw [show (10 : Int32) + nI k = nI (10 + k) from nI_add 10 k]; exact e187) ?_))))
    by_cases h0 : r.1 = 0
    · rw [if_pos h0, if_pos h0]
      refine rd_i rfl hM2.1.k (clI_i (m_ordinal hM2.1 hM2.2.1 hq1 nm) ?_)
      by_cases h1 : fndC q1.1 nm 0 = -1
      · rw [if_pos h1]
        exact it_f (not_not_intro h1) rfl
      · rw [if_neg h1]
        exact it_t h1 rfl
    · rw [if_neg h0, if_neg h0]
end OPS
