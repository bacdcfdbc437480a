/-! CALLS: row -/
section OPS
variable {x : Nat} {E E' : List TE} {R R' : List TR} {F F' : List TF} {W W' : List TW} {O O' : List TO} {T T' : List TL} {S S' : TS} {jW jO jW' jO' n : Nat} {M M' M1 : Mem}
theorem cntW_le : ∀ (T : List TL), (∀ q ∈ T, q.2.2.1.length ≤ 6) → cntW T ≤ 6 * T.length := by
  intro T
  induction T with
  | nil => intro _; exact Nat.le_refl _
  | cons q T ih =>
    intro h
    have h1 := ih (fun r hr => h r (List.mem_cons_of_mem _ hr))
    have h2 := h q List.mem_cons_self
    have h3 : (q.2.2.1.filter (fun t => t.2.2.2.2.2 != -1)).length ≤ q.2.2.1.length := List.length_filter_le _ _
    unfold cntW at h1 ⊢
    rw [List.map_cons, List.sum_cons, List.length_cons]
    omega
theorem ML.cnt {m : Nat} (h : ML m M T) : cntW T ≤ 384 := by
  have := cntW_le T (fun q hq => by
    obtain ⟨i, hi⟩ := List.getElem?_of_mem hq
    exact (h.2.2 i q hi).1)
  have := h.2.1
  omega
theorem XS.s709 {S : TS} (h : XS x M S) : XS x (sI M 709 x (nI S.1 + 1)) (S.1 + 1, S.2) := by
  obtain ⟨s1, s2, s3, s4, s5, s6, s7, s8, s9⟩ := h
  refine ⟨?_, ?_, ?_, s4, s5, s6, ?_, ?_, ?_⟩
  · rw [gI_sI, up2_at, nI_1]
  · rw [gI_sI, up2_ne (by omega)]; exact s2
  · rw [gI_sI, up2_ne (by omega)]; exact s3
  · rw [gI_sI, up2_ne (by omega)]; exact s7
  · rw [gI_sI, up2_ne (by omega)]; exact s8
  · rw [gI_sI, up2_ne (by omega)]; exact s9
theorem MI.s794 {m : Nat} (h : MI m E R F W O T S M) : MI m E R F W O T (S.1 + 1, S.2) (sI M 794 m (nI S.1 + 1)) := by
  obtain ⟨s1, s2, s3, s4, s5, s6, s7, s8⟩ := h.2.2.2.2.2.2.2
  refine h.us ⟨⟨rfl, rfl, rfl⟩, fun k hk => ?_, fun _ _ => rfl, fun _ _ => rfl⟩ ⟨?_, ?_, ?_, s4, s5, ⟨?_, ?_, ?_, ?_, ?_⟩, ?_, ?_⟩
  · have : ∀ k ∈ [768, 773, 784, 793, 791, 813], k ≠ 794 := by decide
    exact g_ne (this k hk)
  · rw [gI_sI, up2_at, nI_1]
  · rw [gI_sI, up2_ne (by omega)]; exact s2
  · rw [gI_sI, up2_ne (by omega)]; exact s3
  · rw [gI_sI, up2_ne (by omega)]; exact s6.1
  · rw [gI_sI, up2_ne (by omega)]; exact s6.2.1
  · rw [gI_sI, up2_ne (by omega)]; exact s6.2.2.1
  · rw [gI_sI, up2_ne (by omega)]; exact s6.2.2.2.1
  · rw [gI_sI, up2_ne (by omega)]; exact s6.2.2.2.2
  · rw [gI_sI, up2_ne (by omega)]; exact s7
  · rw [gI_sI, up2_ne (by omega)]; exact s8
theorem wfW_app {l : Nat} {v : List Int64} (h : wfW W) (hl : l < 8) : wfW (W ++ [(nI l, v)]) := fun r w hw => by
  by_cases c : r < W.length
  · rw [List.getElem?_append_left c] at hw
    exact h r w hw
  · rw [List.getElem?_append_right (by omega)] at hw
    have : r - W.length < 1 := (List.getElem?_eq_some_iff.mp hw).1
    rw [show r - W.length = 0 by omega] at hw
    cases hw
    exact ⟨l, hl, rfl⟩
theorem app_old {α : Type} {l r : List α} {i : Nat} {q : α} (h : l[i]? = some q) : (l ++ r)[i]? = some q := by
  rw [List.getElem?_append_left (List.getElem?_eq_some_iff.mp h).1]
  exact h
theorem op_row (h : Inv x E R F W O T S jW jO M) (e f : Int32) : Op x W O T jW jO M (fun M => ex 86 3 [pR (some x), pI e, pI f] M) (fun M => ex 190 3 [pR (some (x + 12)), pI e, pI f] M) := by
  obtain ⟨hX, hM, aw⟩ := id h
  obtain ⟨⟨hB, hv, hL⟩, -, -, -, hW, -, -, hS⟩ := id hX
  obtain ⟨mB, -, -, -, mW, -, mL, mS⟩ := id hM
  have hl := mW.2.1
  have hcw := mL.cnt
  obtain ⟨b1, b2, b3, b4, b5, b6, b7, b8, b9, b10⟩ := id aw.2.2.2.2.2
  have i7 : (7 : Int64) = (nI 8 - 1).toInt64 := by decide
  rcases oob_or e 8 (by omega) with ho | ⟨l, hl8, rfl⟩
  · refine Op.keep h (v := pI (-1)) ?_ ?_
    · show ex 86 3 [pR (some x), pI e, pI f] M = _
      rw [tX11_row]
      by_cases h0 : e < 0
      · exact it_t h0 rfl
      · refine it_f h0 (it_t ?_ rfl)
        have := ho.resolve_left h0
        rw [I32_le] at this
        rw [I32_lt]
        have e3 : (nI 8).toInt = 8 := rfl
        have e2 : (7 : Int32).toInt = 7 := rfl
        omega
    · show ex 190 3 [pR (some (x + 12)), pI e, pI f] M = _
      rw [tX12_row, i7]
      refine clI_i (m_in _ _ _ M) ?_
      rw [inB_no (by omega) ho]
      exact it_t rfl rfl
  have l0 : ¬ nI l < 0 := nI_pos (by omega)
  have l7 : ¬ 7 < nI l := by
    rw [I32_lt, nI_toInt (by omega)]
    have e2 : (7 : Int32).toInt = 7 := rfl
    omega
  have pm : ∀ {M : Mem} {r : Option Rt}, (fun M1 => if f ≤ 16 then rd (some (x + 12)) 12 M1 fun a3 => if ¬ gI M1 794 a3 = 40 then if 0 ≤ f then rd (some (x + 12)) 12 M1 fun a4 => rd (some (x + 12)) 12 M1 fun a5 => bd (sI M1 794 a5 (gI M1 794 a4 + 1)) fun M6 => rd (some (x + 12)) 12 M6 fun a8 => clI (ex 189 4 [pR (some a8), pI (nI l), pI f] M6) fun r9 M7 => some (some (pI r9), M7) else some (some (pI (-14)), M1) else some (some (pI (-3)), M1) else some (some (pI (-1)), M1)) M = r → ex 190 3 [pR (some (x + 12)), pI (nI l), pI f] M = r := fun {M r} hr => by
    rw [tX12_row, i7]
    refine clI_i (m_in _ _ _ M) ?_
    rw [inB_yes (by omega) hl8]
    exact it_f (by decide) hr
  have pc : ∀ {r : Option Rt}, (if f ≤ 16 then rd (some x) 11 M fun a1 => if gI M 709 a1 < 40 then if 0 ≤ f then rd (some x) 11 M fun a2 => rd (some x) 11 M fun a3 => bd (sI M 709 a3 (gI M 709 a2 + 1)) fun M4 => rd (some x) 11 M4 fun a6 => clI (ex 120 3 [pR (some a6), pI (nI l), pI f] M4) fun r7 M5 => some (some (pI r7), M5) else clI (ex 113 1 [pI 4] M) fun r9 M8 => some (some (pI r9), M8) else some (some (pI (-3)), M) else some (some (pI (-1)), M)) = r → ex 86 3 [pR (some x), pI (nI l), pI f] M = r := fun hr => by
    rw [tX11_row]
    exact it_f l0 (it_f l7 hr)
  by_cases f16 : ¬ f ≤ 16
  · exact Op.keep h (v := pI (-1)) (pc (it_f f16 rfl)) (pm (it_f f16 rfl))
  have f16 : f ≤ 16 := Classical.not_not.mp f16
  by_cases s40 : S.1 = 40
  · refine Op.keep h (v := pI (-3)) (pc (it_t f16 (rd_i rfl hB.k (it_f ?_ rfl)))) (pm (it_t f16 (rd_i rfl mB.k (it_f (not_not_intro ?_) rfl))))
    · rw [hS.1, s40]; decide
    · rw [mS.1, s40]; rfl
  have s40' : S.1 < 40 := by omega
  have c40 : gI M 709 x < 40 := by rw [hS.1]; exact nI_lt (b := 40) s40' (by decide)
  have d40 : ∀ {M1 : Mem}, MS (x + 12) M1 S → ¬ gI M1 794 (x + 12) = 40 := fun hms q => by
    rw [hms.1] at q
    have := nI_inj (b := 40) (by omega) (by omega) q
    omega
  by_cases f0 : ¬ 0 ≤ f
  · exact Op.keep h (v := pI (-14)) (pc (it_t f16 (rd_i rfl hB.k (it_t c40 (it_f f0 (clI_i (tX11_answerOf _ _) rfl)))))) (pm (it_t f16 (rd_i rfl mB.k (it_t (d40 mS) (it_f f0 rfl)))))
  have f0 : 0 ≤ f := Classical.not_not.mp f0
  obtain ⟨k, hk, rfl⟩ : ∃ k, k < 17 ∧ f = nI k := nI_in' (by omega) (fun z => by rw [I32_lt] at z; rw [I32_le] at f0; omega) (by
    rw [I32_lt]
    rw [I32_le] at f16
    have e3 : (nI 17).toInt = 17 := rfl
    have e2 : (16 : Int32).toInt = 16 := rfl
    omega)
  have f1 : Fr x (fun k => k = 709) No No No 0 M (sI M 709 x (nI S.1 + 1)) := (Fr.rf hv hL).bI (Or.inl ⟨by omega, rfl⟩)
  have hX1 : XI x E R F W O T (S.1 + 1, S.2) jW jO (sI M 709 x (nI S.1 + 1)) := hX.frS f1 (fun k q => by omega) (fun _ q => q.elim) (fun _ q => q.elim) hS.s709
  have run : ∀ {r : Option Rt}, (rd (some x) 11 (sI M 709 x (nI S.1 + 1)) fun a6 => clI (ex 120 3 [pR (some a6), pI (nI l), pI (nI k)] (sI M 709 x (nI S.1 + 1))) fun r7 M5 => some (some (pI r7), M5)) = r → ex 86 3 [pR (some x), pI (nI l), pI (nI k)] M = r := fun hr => by
    refine pc (it_t f16 (rd_i rfl hB.k (it_t c40 (it_t f0 (rd_i rfl hB.k (rd_i rfl hB.k (bd_i ?_)))))))
    rw [hS.1]
    exact hr
  generalize sI M 709 x (nI S.1 + 1) = Ma at f1 hX1 run
  obtain ⟨M1, jW', e120, hX2, f2, hj⟩ := c_addRow (p := nI l) (k := k) hX1 (by omega) (by omega)
  have f3 : Fr x KX (AX x) (AX x) (AX x) (0 + if jW = 0 then 26 else 0) M M1 := (f1.mo (K' := KX) (L' := AX x) (AI' := AX x) (AJ' := AX x) (Nat.le_refl _) (fun k q => by subst q; decide) (fun _ q => q.elim) (fun _ q => q.elim) (fun _ q => q.elim)).trN f2 (fun k q => by rcases q with q | q | q <;> (subst q; decide)) (fun l _ q => by omega) (fun _ _ q => q.elim) (fun d _ q => by omega)
  refine Op.chg (W' := W ++ [(nI l, List.replicate k 0)]) (S' := (S.1 + 1, S.2)) (v := pI (nI W.length)) h (M1 := M1) (run (rd_i rfl hX1.1.1.k (clI_i e120 rfl))) f3 hX2 (fun hM1 => ?_) ?_ ?_
  · obtain ⟨mB1, -, -, -, -, -, -, mS1⟩ := id hM1
    have hM2 := hM1.s794
    obtain ⟨M3, e189, cu, hM3⟩ := m_newRow (l := l) (k := k) hM2 hl8 (by omega) (by omega)
    refine ⟨M3, pm (it_t f16 (rd_i rfl mB1.k (it_t (d40 mS1) (it_t f0 (rd_i rfl mB1.k (rd_i rfl mB1.k (bd_i ?_))))))), (CU.rf.bI (by omega)).tr cu, hM3⟩
    rw [mS1.1]
    exact rd_i rfl mB1.k (clI_i e189 rfl)
  · refine aw_W aw (fun r w hw => ⟨w, app_old hw, rfl⟩) (wfW_app aw.2.2.1 hl8) (by rw [List.length_append]; omega) (by show S.1 + 1 ≤ 40; omega) ?_ ?_ rfl
    · rw [List.length_append]
      show W.length + 1 ≤ S.1 + 1 + cntW T
      omega
    · rw [List.length_append]
      show W.length + 1 + jW' ≤ 440
      omega
  · unfold pot
    rw [List.length_append]
    show (0 + if jW = 0 then 26 else 0) + 64 * (W.length + jW + O.length + jO + T.length) ≤ 64 * (W.length + 1 + jW' + O.length + jO + T.length + 1)
    split <;> omega
end OPS
