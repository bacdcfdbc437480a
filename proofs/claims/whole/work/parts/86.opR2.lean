/-! CALLS on records: record, part -/
section OPR
variable {x : Nat} {E E' : List TE} {R R' : List TR} {F F' : List TF} {W W' : List TW} {O O' : List TO} {T T' : List TL} {S S' : TS} {jW jO jW' jO' n : Nat} {M M1 : Mem}
theorem rec_init {Ma : Mem} {a : Nat} {K L AI AJ : Nat → Prop} (f : Fr x K L AI AJ n M Ma) (haM : mT M ≤ a) (hBa : XB x Ma) (ha : mT Ma = a + 1) (hk : kd Ma a = 9) (hz : gI Ma 578 a = 0) : ∃ Mc, ex 64 1 [pR (some a)] Ma = some (none, Mc) ∧ Fr x K L AI AJ (n + 1 + 1) M Mc ∧ XB x Mc ∧ cR x Mc ([], [], 0) a := by
  obtain ⟨e1, f1, l1, t1⟩ := newList f hBa
  obtain ⟨-, r1, -, -⟩ := newList (K := No) (L := No) (AI := No) (AJ := No) (Fr.rf f.v f.li) hBa
  have k1 : kd (nL Ma) a = 9 := by rw [r1.fk (by omega)]; exact hk
  have z1 : gI (nL Ma) 578 a = 0 := by rw [r1.fI (by omega) (by omega) id]; exact hz
  have f2 := f1.bF (k := 576) (a := a) (v := some (mT Ma)) (Or.inr ⟨haM, Or.inl (by omega)⟩)
  have r2 : Fr x (fun k => k = 576) No No No (0 + 1) Ma (sF (nL Ma) 576 a (some (mT Ma))) := (r1.mo (Nat.le_refl _) (fun _ q => q.elim) (fun _ => id) (fun _ => id) (fun _ => id)).bF (Or.inl ⟨by omega, rfl⟩)
  have q1 : gR (sF (nL Ma) 576 a (some (mT Ma))) 576 a = some (mT Ma) := by rw [gR_sF, up2_at]
  have s1 : ex 64 1 [pR (some a)] Ma = bd (nO (sF (nL Ma) 576 a (some (mT Ma))) 0 3) fun M7 => rd (some (mT (sF (nL Ma) 576 a (some (mT Ma))))) 0 M7 fun a9 => clV (ex 11 1 [pR (some a9)] M7) fun M8 => rd (some a) 9 M8 fun a10 => bd (sF M8 577 a10 (some (mT (sF (nL Ma) 576 a (some (mT Ma)))))) fun M11 => some (none, M11) := by
    rw [tX9_init]
    exact nn_i rfl (bd_i (rd_i rfl (if_pos rfl) (clV_i e1 (rd_i rfl k1 (bd_i rfl)))))
  have l2 : isL (sF (nL Ma) 576 a (some (mT Ma))) (mT Ma) [] := isL_sF l1 (by decide)
  have t2 : mT (sF (nL Ma) 576 a (some (mT Ma))) = mT Ma + 1 := by rw [mT_sF]; exact t1
  generalize sF (nL Ma) 576 a (some (mT Ma)) = Mb at f2 q1 s1 l2 t2 r2
  have hBb : XB x Mb := hBa.fr r2 (by decide) (fun _ _ => id)
  have kb : kd Mb a = 9 := by rw [r2.fk (by omega)]; exact hk
  have zb : gI Mb 578 a = 0 := by rw [r2.fI (by omega) (by omega) (by decide)]; exact hz
  obtain ⟨e3, f3, l3, t3⟩ := newList f2 hBb
  obtain ⟨-, r3, -, -⟩ := newList (K := No) (L := No) (AI := No) (AJ := No) (Fr.rf f2.v f2.li) hBb
  have k3 : kd (nL Mb) a = 9 := by rw [r3.fk (by omega)]; exact kb
  have f4 := f3.bF (k := 577) (a := a) (v := some (mT Mb)) (Or.inr ⟨haM, Or.inl (by omega)⟩)
  have r4 : Fr x (fun k => k = 577) No No No (0 + 1) Mb (sF (nL Mb) 577 a (some (mT Mb))) := (r3.mo (Nat.le_refl _) (fun _ q => q.elim) (fun _ => id) (fun _ => id) (fun _ => id)).bF (Or.inl ⟨by omega, rfl⟩)
  have q2 : gR (sF (nL Mb) 577 a (some (mT Mb))) 577 a = some (mT Mb) := by rw [gR_sF, up2_at]
  have l4 : isL (sF (nL Mb) 577 a (some (mT Mb))) (mT Mb) [] := isL_sF l3 (by decide)
  have run : ex 64 1 [pR (some a)] Ma = some (none, sF (nL Mb) 577 a (some (mT Mb))) := by
    rw [s1]
    exact bd_i (rd_i rfl (if_pos rfl) (clV_i e3 (rd_i rfl k3 (bd_i rfl))))
  generalize sF (nL Mb) 577 a (some (mT Mb)) = Mc at f4 q2 l4 r4 run
  refine ⟨Mc, run, f4, hBb.fr r4 (by decide) (fun _ _ => id), by rw [r4.fk (by omega)]; exact kb, ?_, ?_, ?_, ?_, ?_⟩
  · rw [r4.fR (by omega) (by omega) (by decide), q1, ha]
  · rw [q2, t2, ha]
  · rw [r4.fI (by omega) (by omega) (by decide)]; exact zb
  · rw [← ha]; exact isO.nil (r4.ls id _ l2)
  · rw [show a + 2 = mT Mb by omega]; exact isO.nil l4
theorem c_newRec (hB : XB x M) (hv : PIv x M) (hL : LI M) (hR : XR x M R) (hRl : R.length ≤ 1000) : ∃ Mc M1, ex 64 1 [pR (some (mT M))] (nO M 9 3) = some (none, Mc) ∧ XB x Mc ∧ ex 19 2 [pR (some (x + 2)), pR (some (mT M))] Mc = some (some (pI 1), M1) ∧ XR x M1 (R ++ [([], [], 0)]) ∧ Fr x No (fun l => l = x + 2) No No 27 M M1 := by
  have hT := hB.lt
  have f1 : Fr x No No No No (0 + 1) M (nO M 9 3) := (Fr.rf hv hL).bO (by omega) (by omega)
  have hBa : XB x (nO M 9 3) := hB.fr f1 (fun _ _ => id) (fun _ _ => id)
  have ka : kd (nO M 9 3) (mT M) = 9 := by rw [kd_nO, up1_at]
  have za : gI (nO M 9 3) 578 (mT M) = 0 := by rw [gI_nO, clr_at]
  have ta : mT (nO M 9 3) = mT M + 1 := rfl
  generalize nO M 9 3 = Ma at f1 hBa ka za ta
  obtain ⟨Mc, e64, f3, hB3, cn⟩ := rec_init f1 (Nat.le_refl _) hBa ta ka za
  have lR : isO Mc x (x + 2) (fun r b => cR x Mc r b ∧ b ≠ mT M) R := isO.mono hR (f3.ls id) (fun q b hb hc => ⟨hc.fr f3 (fun _ _ => id) ⟨id, id⟩, fun e => by have := lt_of_kd hv hc.1 (by omega); omega⟩)
  obtain ⟨M1, e19, lm, v1, lR1⟩ := isO.add (q := (([], [], 0) : TR)) (c := 9) lR f3.v (fun d hd => (hB3.de d hd).1) f3.li (by omega) cn.1 (by omega) (by omega) cn
  have f4 : Fr x No (fun l => l = x + 2) No No (0 + 24) Mc M1 := (Fr.rf (K := No) (L := fun l => l = x + 2) (AI := No) (AJ := No) f3.v f3.li).bL lm v1 (Or.inl rfl)
  have hR1 : XR x M1 (R ++ [([], [], 0)]) := lR1 _ (fun q b hb hc => hc.fr f4 (fun _ _ => id) ⟨fun q => by omega, fun q => by omega⟩)
  have f5 := (f3.mo (L' := fun l => l = x + 2) (Nat.le_refl _) (fun _ => id) (fun _ q => q.elim) (fun _ => id) (fun _ => id)).tr f4
  exact ⟨Mc, M1, e64, hB3, e19, hR1, f5.mo (by omega) (fun _ => id) (fun _ => id) (fun _ => id) (fun _ => id)⟩
theorem MR_newRec {m : Nat} (mR : MR m M R) (h6 : R.length < 6) : MR m (sI M 773 m (nI R.length + 1)) (R ++ [([], [], 0)]) := by
  obtain ⟨y1, y2, y3, y4⟩ := mR
  refine ⟨?_, by rw [List.length_append]; simp only [List.length_cons, List.length_nil]; omega, fun e q hq => ?_, fun e he1 he2 => ?_⟩
  · rw [gI_sI, up2_at, List.length_append, nI_1]
    rfl
  · by_cases e1 : e < R.length
    · rw [List.getElem?_append_left e1] at hq
      exact y3 e q hq
    · rw [List.getElem?_append_right (by omega)] at hq
      have : e - R.length < 1 := (List.getElem?_eq_some_iff.mp hq).1
      rw [show e - R.length = 0 by omega] at hq
      cases hq
      obtain ⟨z1, z2, z3⟩ := y4 e (by omega) (by omega)
      exact ⟨⟨by simp, z1, fun c r hr => by simp at hr⟩, ⟨by simp, z2, fun c r hr => by simp at hr⟩, z3, Or.inl rfl⟩
  · rw [List.length_append] at he1
    simp only [List.length_cons, List.length_nil] at he1
    exact y4 e (by omega) he2
theorem nI6 {n : Nat} (h : n < 6) : nI n < 6 := nI_lt (b := 6) h (by decide)
theorem wfR_app {nE nF : Nat} (h : wfR nE nF R) : wfR nE nF (R ++ [([], [], 0)]) := by
  intro r q hq
  by_cases e1 : r < R.length
  · rw [List.getElem?_append_left e1] at hq
    exact h r q hq
  · rw [List.getElem?_append_right (by omega)] at hq
    have : r - R.length < 1 := (List.getElem?_eq_some_iff.mp hq).1
    rw [show r - R.length = 0 by omega] at hq
    cases hq
    exact ⟨fun p t ht => by simp at ht, fun p t ht => by simp at ht⟩
theorem op_record (h : Inv x E R F W O T S jW jO M) : Op x W O T jW jO M (fun M => ex 80 1 [pR (some x)] M) (fun M => ex 175 1 [pR (some (x + 12))] M) := by
  obtain ⟨hX, hM, aw⟩ := id h
  obtain ⟨⟨hB, hv, hL⟩, -, hR, -, -, hO, -, -⟩ := id hX
  obtain ⟨mB, -, mR, -, -, mO, -, -⟩ := id hM
  by_cases ho : O = []
  · have c0 := (ob0 hO).mpr ho
    have d0 := (mb0 mO).mpr ho
    have hRl := mR.2.1
    by_cases hf : R.length = 6
    · refine Op.keep h (v := pI (-3)) ?_ ?_
      · show ex 80 1 [pR (some x)] M = _
        rw [tX11_record]
        exact rd_i rfl hB.k (it_t c0 (rd_i rfl hB.k (rd_i hB.r2.1 hB.r2.2 (clI_i hR.size (it_f (by rw [hf]; decide) rfl)))))
      · show ex 175 1 [pR (some (x + 12))] M = _
        rw [tX12_record]
        exact rd_i rfl mB.k (it_t d0 (rd_i rfl mB.k (it_f (not_not_intro (by rw [mR.1, hf]; rfl)) rfl)))
    · obtain ⟨Mc, M1, e64, hB3, e19, hR1, f5⟩ := c_newRec hB hv hL hR (by omega)
      have hX1 := hX.frR f5 (fun _ q => q.elim) (fun l q => Or.inl q) hR1
      have hB4 := hX1.1.1
      refine Op.chg (R' := R ++ [([], [], 0)]) (v := pI (nI R.length)) h (M1 := M1) ?_ (f5.mo (n' := 27) (Nat.le_refl _) (fun _ q => q.elim) (fun l q => by omega) (fun _ q => q.elim) (fun _ q => q.elim)) hX1 (fun hM1 => ?_) ?_ (by omega)
      · show ex 80 1 [pR (some x)] M = _
        rw [tX11_record]
        refine rd_i rfl hB.k (it_t c0 (rd_i rfl hB.k (rd_i hB.r2.1 hB.r2.2 (clI_i hR.size (it_t (nI6 (by omega)) (rd_i rfl hB.k (bd_i (rd_i rfl (if_pos rfl) (clV_i e64 (rd_i hB.r2.1 hB3.r2.2 (clI_i e19 (rd_i rfl hB4.k (rd_i hB4.r2.1 hB4.r2.2 (clI_i hR1.size ?_))))))))))))))
        rw [List.length_append, show ([([], [], 0)] : List TR).length = 1 from rfl, nI_pred]
      · obtain ⟨mB1, mE1, mR1, mF1, mW1, mO1, mL1, mS1⟩ := id hM1
        have d1 := (mb0 mO1).mpr ho
        refine ⟨sI M1 773 (x + 12) (nI R.length + 1), ?_, CU.rf.bI (by omega), hM1.ur UR.rf.sI (MR_newRec mR1 (by omega))⟩
        show ex 175 1 [pR (some (x + 12))] M1 = _
        rw [tX12_record]
        refine rd_i rfl mB1.k (it_t d1 (rd_i rfl mB1.k (it_t (fun q => ?_) (rd_i rfl mB1.k (rd_i rfl mB1.k (bd_i (rd_i rfl mB1.k ?_)))))))
        · rw [mR1.1] at q
          exact hf (nI_inj (b := 6) (by omega) (by omega) q)
        · rw [mR1.1]
          have e9 : gI (sI M1 773 (x + 12) (nI R.length + 1)) 773 (x + 12) = nI R.length + 1 := up2_at
          rw [e9, nI_1, nI_pred]
      · subst ho
        exact awR aw (wfR_app aw.1) (by rw [List.length_append]; omega) (by rw [cntR_app]; rfl)
  · refine Op.keep h (v := pI (-2)) ?_ ?_
    · show ex 80 1 [pR (some x)] M = _
      rw [tX11_record]
      exact rd_i rfl hB.k (it_f (fun q => ho ((ob0 hO).mp q)) rfl)
    · show ex 175 1 [pR (some (x + 12))] M = _
      rw [tX12_record]
      exact rd_i rfl mB.k (it_f (fun q => ho ((mb0 mO).mp q)) rfl)
end OPR
