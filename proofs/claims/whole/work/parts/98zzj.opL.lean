/-! CALLS: load, the whole of it -/
section OPS
variable {x : Nat} {E E' : List TE} {R R' : List TR} {F F' : List TF} {W W' : List TW} {O O' : List TO} {T T' : List TL} {S S' : TS} {jW jO jW' jO' n : Nat} {M M' M1 : Mem}
theorem op_load (h : Inv x E R F W O T S jW jO M) (e : Int32) : Op x W O T jW jO M (fun M => ex 101 3 [pR (some x), pI e] M) (fun M => ex 222 10 [pR (some (x + 12)), pI e] M) := by
  obtain ⟨hX, hM, aw⟩ := id h
  obtain ⟨⟨hB, hv, hL⟩, hE, hR, hF, hW, hO, ⟨as, ad, hT⟩, hS⟩ := id hX
  obtain ⟨mB, mE, mR, mF, mW, mO, mL, mS⟩ := id hM
  have hla : XLa x M as ad T := hT
  have hl64 := mL.2.1
  rcases oob_or e T.length (by omega) with ho | ⟨l, hl, rfl⟩
  · refine Op.keep h (v := pI (-1)) ?_ ?_
    · show ex 101 3 [pR (some x), pI e] M = _
      rw [tX11_load]
      exact rd_i rfl hB.k (clR_i (c_lineAt_no hB hla (oobL (by omega) ho)) (it_t rfl rfl))
    · show ex 222 10 [pR (some (x + 12)), pI e] M = _
      rw [tX12_load]
      refine rd_i rfl mB.k ?_
      rw [mL.1]
      refine clI_i (m_in _ _ _ M) ?_
      rw [inB_no (by omega) ho]
      exact it_f (not_not_intro rfl) rfl
  have hq : T[l]? = some T[l] := List.getElem?_eq_getElem hl
  generalize T[l] = q at hq
  obtain ⟨a, ha, c112, hxa, cl⟩ := c_lineAt hB hla hq
  rw [← nI_l (by omega)] at c112
  have runm : ∀ {Mm : Mem} {rr : Option Rt}, MI (x + 12) E R F W O T S Mm → (if q.2.2.2 = (-1) then rn PP 222 53 [some (pR (some (x + 12))), some (pI (nI l)), some (pI (nI 1)), some (pI 0), none, none, none, none, none, none] [] (wI (wI Mm (x + 12 + 42) 0 (nI l)) (x + 12 + 43) 0 0) else some (some (pI q.2.2.2), Mm)) = rr → ex 222 10 [pR (some (x + 12)), pI (nI l)] Mm = rr := fun {Mm rr} hMm hr => by
    obtain ⟨mB', -, -, -, -, -, mL', -⟩ := id hMm
    have hM1 : MI (x + 12) E R F W O T S (wI Mm (x + 12 + 42) 0 (nI l)) := hMm.uz (UZ.rf.wI (by decide))
    rw [tX12_load]
    refine rd_i rfl mB'.k ?_
    rw [mL'.1]
    refine clI_i (m_in _ _ _ Mm) ?_
    rw [inB_yes (by omega) hl]
    refine it_t (by decide) (rd_i rfl mB'.k (ix_m (n := l) mB'.a40 rfl (by omega) (by omega) ?_))
    rw [(mL'.2.2 l q hq).2.2.2.2.1]
    by_cases u : q.2.2.2 = -1
    · rw [if_pos u] at hr ⊢
      exact rd_i rfl mB'.k (ix_m (n := 0) mB'.a42 rfl (by omega) (by omega) (bd_i (rd_i rfl hM1.1.k (ix_m (n := 0) hM1.1.a43 rfl (by omega) (by omega) (bd_i hr)))))
    · rw [if_neg u] at hr ⊢
      refine rd_i rfl mB'.k (ix_m (n := l) mB'.a40 rfl (by omega) (by omega) ?_)
      rw [(mL'.2.2 l q hq).2.2.2.2.1]
      exact hr
  by_cases u' : ¬ q.2.2.2 = -1
  · have u := u'
    refine Op.keep h (v := pI q.2.2.2) ?_ (runm hM (it_f u rfl))
    show ex 101 3 [pR (some x), pI (nI l)] M = _
    rw [tX11_load]
    refine rd_i rfl hB.k (clR_i c112 (it_f (fun z => nomatch z) (rd_i rfl cl.1 ?_)))
    rw [cl.2.2.2.1]
    exact it_f u (rd_i rfl cl.1 (by rw [cl.2.2.2.1]))
  have u : q.2.2.2 = -1 := Classical.not_not.mp u'
  obtain ⟨hX1, hla1, f1⟩ := c_open (i := 0) (v := nI l) hX hla
  obtain ⟨hX2, hla2, f2⟩ := c_set388 (v := 0) hX1 hla1 ha hq
  have ff : Fr x KX (AX x) (AX x) (AX x) 0 M (sI (wI M (x + 11) 0 (nI l)) 388 a 0) := (f1.mo (K' := KX) (L' := AX x) (AI' := AX x) (AJ' := AX x) (Nat.le_refl _) (fun _ q => q.elim) (fun _ q => q.elim) (fun d q => by omega) (fun _ q => q.elim)).tr (f2.mo (K' := KX) (L' := AX x) (AI' := AX x) (AJ' := AX x) (Nat.le_refl _) (fun k q => by subst q; decide) (fun _ q => q.elim) (fun _ q => q.elim) (fun _ q => q.elim))
  have hB1 := hX1.1.1
  have r11 := hB.r11
  have cl1 := (hla1.2.2.2.2 l a q ha hq).2
  have hr := (aw.2.2.2.2.1 l q hq).1
  obtain ⟨rc, hrc⟩ : ∃ rc, R[q.1]? = some rc := ⟨_, List.getElem?_eq_getElem hr⟩
  have runc : ∀ {rr : Option Rt}, rn PP 146 31 [some (pR (some x)), some (pI (nI l)), some (pI (nI 1)), some (pI 512), some (pI (nI 0)), none, none, none, none, none, none] [] (sI (wI M (x + 11) 0 (nI l)) 388 a 0) = rr → (clI rr fun r7 M5 => some (some (pI r7), M5)) = ex 101 3 [pR (some x), pI (nI l)] M := fun {rr} hr => by
    symm
    rw [tX11_load]
    refine rd_i rfl hB.k (clR_i c112 (it_f (fun z => nomatch z) (rd_i rfl cl.1 ?_)))
    rw [cl.2.2.2.1]
    refine it_t u (rd_i rfl hB.k ?_)
    have e146 : ex 146 11 [pR (some x), pI (nI l)] M = rr := by
      rw [tX11_loadInOrder]
      exact rd_i rfl hB.k (ix_i (n := 0) r11.1 (Or.inl r11.2.1) rfl (by rw [r11.2.2]; omega) (by omega) (bd_i (rd_i rfl hB1.k (rd_i hB1.r10.1 hB1.r10.2 (clR_i (L_get hla1.1 ha) (ck_s rfl cl1.1 (rd_i rfl cl1.1 (bd_i hr))))))))
    rw [e146]
  have hk : SK E R F W O T as (sI (wI M (x + 11) 0 (nI l)) 388 a 0) [(l, [])] := fun e he => by
    have := List.mem_singleton.mp he
    rw [this]
    refine ⟨a, q, rc, ⟨ha, hq, u, hrc⟩, ⟨?_, Nat.zero_le _, fun i v hi => nomatch hi⟩, fun p s v _ hi => nomatch hi⟩
    rw [gI_sI, up2_at]
    rfl
  have hst : stkI (aI (sI (wI M (x + 11) 0 (nI l)) 388 a 0) (x + 11)) ([(l, ([] : List Int64))].map Prod.fst) := by
    rw [aI_sI, aI_wI, up1_at]
    exact ⟨up1_at, trivial⟩
  have bn : BN E R F T := ⟨mE.2.1, fun e q he => (mE.2.2.1 e q he).1, mR.2.1, fun r q hr => (mR.2.2.1 r q hr).1.1, mF.2.1, hl64⟩
  obtain ⟨v, E', R', W', O', T', S', jW', jO', nn, M', ⟨h1, h2, h3, h4⟩, ⟨h5, h6⟩, h7⟩ := load_both (fi := l) 512 0 E R W O T S jW jO [(l, [])] _ (by omega) hX2 aw hla2 hk hst (List.pairwise_singleton _ _) bn hl (fun _ => by
    have : sumL [(l, ([] : List Int64))] = 1 := rfl
    omega)
  have e1 : ex 101 3 [pR (some x), pI (nI l)] M = some (some (pI v), M') := (runc h1).symm.trans (clI_i rfl rfl)
  refine Op.chg (v := pI v) h (M1 := M') e1 (ff.tr h4) h2 (fun hM1 => ?_) h3 ?_
  · have hMa : MI (x + 12) E R F W O T S (wI (wI M' (x + 12 + 42) 0 (nI l)) (x + 12 + 43) 0 0) := (hM1.uz (UZ.rf.wI (by decide))).uz (UZ.rf.wI (by decide))
    have hka : MK (x + 12) (wI (wI M' (x + 12 + 42) 0 (nI l)) (x + 12 + 43) 0 0) [(l, [])] := by
      refine ⟨?_, ?_, (fun i v hi => nomatch hi), trivial⟩
      · rw [aI_wI, up1_no (by omega), aI_wI, up1_at]
        exact ⟨up1_at, trivial⟩
      · rw [aI_wI, up1_at]
        exact up1_at
    obtain ⟨Mz, z1, z2, z3⟩ := h7 (x + 12) _ hMa hka
    exact ⟨Mz, runm hM1 (it_t u z1), ((CU.rf.wI (by omega)).wI (by omega)).tr z2, z3⟩
  · unfold pot
    rw [h6]
    omega
end OPS
