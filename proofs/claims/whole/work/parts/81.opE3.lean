/-! CALLS on enumerations: fails, exchange, forget -/
theorem isO.swap {α : Type} {M : Mem} {x l base i j : Nat} {P : α → Nat → Prop} {xs : List α} {qi qj : α} (h : isO M x l P xs) (hv : PIv base M) (hLI : LI M) (hi : xs[i]? = some qi) (hj : xs[j]? = some qj) (hk : ∀ q a, P q a → 2 ≤ kd M a ∧ kd M a ≤ 10) :
    ∃ ka kb v1 v2 M1 M2, ex 16 2 [pR (some l), pI (nI i)] M = some (some (pR (some ka)), M) ∧ ex 16 2 [pR (some l), pI (nI j)] M = some (some (pR (some kb)), M) ∧ ex 17 4 [pR (some l), pI (nI i), pR (some kb)] M = some (some (pR v1), M1) ∧ ex 17 4 [pR (some l), pI (nI j), pR (some ka)] M1 = some (some (pR v2), M2) ∧ LM M M1 l ∧ LM M1 M2 l ∧ PIv base M1 ∧ PIv base M2 ∧ gR M1 = gR M ∧ (∀ P' : α → Nat → Prop, (∀ q b, x + 57 < b → P q b → P' q b) → isO M2 x l P' ((xs.set i qj).set j qi)) := by
  obtain ⟨as, h1, h2, h3, h4⟩ := h
  have hil : i < xs.length := (List.getElem?_eq_some_iff.mp hi).1
  have hjl : j < xs.length := (List.getElem?_eq_some_iff.mp hj).1
  have ai : as[i]? = some as[i] := List.getElem?_eq_getElem (by omega)
  have aj : as[j]? = some as[j] := List.getElem?_eq_getElem (by omega)
  obtain ⟨x1, p1⟩ := h4 i _ qi ai hi
  obtain ⟨x2, p2⟩ := h4 j _ qj aj hj
  generalize as[i] = ka at *
  generalize as[j] = kb at *
  obtain ⟨v1, M1, e1, e2, e3, e4, -, e6, e7⟩ := L_set hLI h1 (i := i) (a := kb) (by omega) (hk _ _ p2)
  have hv1 := (ex_kp base e1).2 hv
  have hk1 : 2 ≤ kd M1 ka ∧ kd M1 ka ≤ 10 := by
    rw [(e3.2.2.2.2.2.2.1 ka (lt_of_kd hv (c := kd M ka) rfl (by have := hk _ _ p1; omega))).1]
    exact hk _ _ p1
  obtain ⟨v2, M2, g1, g2, g3, -, -, -, -⟩ := L_set e3.2.2.2.2.2.2.2.2.2.2.2 e2 (i := j) (a := ka) (by rw [List.length_set]; omega) hk1
  have hv2 := (ex_kp base g1).2 hv1
  refine ⟨ka, kb, v1, v2, M1, M2, L_get h1 ai, L_get h1 aj, e1, g1, e3, g3, hv1, hv2, e6, fun P' hP' => ⟨(as.set i kb).set j ka, g2, fun t t' a ht ht' => ?_, by simp [h3], fun t a q ht hq => ?_⟩⟩
  · -- which place it was
    have key : ∀ t : Nat, ((as.set i kb).set j ka)[t]? = if t = j then some ka else if t = i then some kb else as[t]? := by
      intro t
      rw [List.getElem?_set, List.getElem?_set]
      by_cases q1 : j = t
      · rw [if_pos q1, if_pos q1.symm, if_pos (by rw [List.length_set]; omega)]
      · rw [if_neg q1, if_neg (show ¬ t = j from fun z => q1 z.symm)]
        by_cases q2 : i = t
        · rw [if_pos q2, if_pos q2.symm, if_pos (by omega)]
        · rw [if_neg q2, if_neg (show ¬ t = i from fun z => q2 z.symm)]
    rw [key] at ht ht'
    have back : ∀ (t a : Nat), (if t = j then some ka else if t = i then some kb else as[t]?) = some a → as[if t = j then i else if t = i then j else t]? = some a := by
      intro t a ht
      by_cases q1 : t = j
      · rw [if_pos q1] at ht ⊢; rw [ai]; exact ht
      · rw [if_neg q1] at ht ⊢
        by_cases q2 : t = i
        · rw [if_pos q2] at ht ⊢; rw [aj]; exact ht
        · rw [if_neg q2] at ht ⊢; exact ht
    have := h2 _ _ a (back t a ht) (back t' a ht')
    clear ht ht' back key h4 h2 hP' hk
    (repeat' split at this) <;> omega
  · rw [List.getElem?_set, List.getElem?_set] at ht hq
    by_cases q1 : j = t
    · rw [if_pos q1, if_pos (by rw [List.length_set]; omega)] at ht hq
      cases ht; cases hq
      exact ⟨x1, hP' _ _ x1 p1⟩
    · rw [if_neg q1] at ht hq
      by_cases q2 : i = t
      · rw [if_pos q2, if_pos (by omega)] at ht hq
        cases ht; cases hq
        exact ⟨x2, hP' _ _ x2 p2⟩
      · rw [if_neg q2] at ht hq
        obtain ⟨y1, y2⟩ := h4 t a q ht hq
        exact ⟨y1, hP' _ _ y1 y2⟩
section OPS
variable {x : Nat} {E E' : List TE} {R R' : List TR} {F F' : List TF} {W W' : List TW} {O O' : List TO} {T T' : List TL} {S S' : TS} {jW jO jW' jO' n : Nat} {M M1 : Mem}
theorem oobL {c : Int32} {n : Nat} (hn : n < 2147483648) (h : oob c n) : c.toInt64 < 0 ∨ lN n ≤ c.toInt64 := by
  rcases h with h | h
  · refine Or.inl ?_
    rw [I64_lt, Int32.toInt_toInt64]
    rw [I32_lt] at h
    exact h
  · refine Or.inr ?_
    rw [I64_le, Int32.toInt_toInt64, lN_toInt hn]
    rw [I32_le, nI_toInt hn] at h
    exact h
theorem m_isConst_no0 {m : Nat} {e c : Int32} (mB : MB m M) (mE : ME m M E) (h : oob e E.length) : ex 160 3 [pR (some m), pI e, pI c] M = some (some (pI 0), M) := by
  rw [tX12_isConstant]
  exact rd_i rfl mB.k (clI_i (m_isEnum_no mB mE h) (it_t rfl (zo_i (Or.inl rfl) rfl)))
theorem m_isConst_no {m k : Nat} {c : Int32} {q : TE} (mB : MB m M) (mE : ME m M E) (hq : E[k]? = some q) (h : oob c q.1.length) : ex 160 3 [pR (some m), pI (nI k), pI c] M = some (some (pI 0), M) := by
  have hk : k < E.length := (List.getElem?_eq_some_iff.mp hq).1
  have h4 := mE.2.1
  obtain ⟨g1, g2, -⟩ := mE.2.2.1 k q hq
  rw [tX12_isConstant]
  refine rd_i rfl mB.k (clI_i (m_isEnum mB mE hk) (it_f (by decide) (rd_i rfl mB.k (ix_m mB.a1 rfl (by omega) (by omega) ?_))))
  rw [g2]
  refine clI_i (m_in _ _ _ M) ?_
  rw [inB_no (by omega) h]
  exact it_t rfl (zo_i (Or.inl rfl) rfl)
theorem m_isConst {m k c : Nat} {q : TE} (mB : MB m M) (mE : ME m M E) (hq : E[k]? = some q) (h : c < q.1.length) : ex 160 3 [pR (some m), pI (nI k), pI (nI c)] M = some (some (pI 1), M) := by
  have hk : k < E.length := (List.getElem?_eq_some_iff.mp hq).1
  have h4 := mE.2.1
  obtain ⟨g1, g2, -⟩ := mE.2.2.1 k q hq
  rw [tX12_isConstant]
  refine rd_i rfl mB.k (clI_i (m_isEnum mB mE hk) (it_f (by decide) (rd_i rfl mB.k (ix_m mB.a1 rfl (by omega) (by omega) ?_))))
  rw [g2]
  refine clI_i (m_in _ _ _ M) ?_
  rw [inB_yes (by omega) h]
  exact it_f (by decide) (zo_i (Or.inr rfl) rfl)
/-- one enumeration of the model's is another one, the rest of ME as it was -/
theorem ME_set {m k : Nat} {q q' : TE} {M' : Mem} (mE : ME m M E) (hq : E[k]? = some q) (h768 : gI M' 768 m = gI M 768 m)
    (hk : q'.1.length ≤ 8 ∧ aI M' (m + 1) k = nI q'.1.length ∧ (∀ (c : Nat) (r : TC), q'.1[c]? = some r → aJ M' (m + 2) (8 * k + c) = r.1 ∧ aI M' (m + 3) (8 * k + c) = r.2 ∧ (r.2 = 0 ∨ r.2 = 1)) ∧ (aI M' (m + 4) k = q'.2.1 ∧ (q'.2.1 = 0 ∨ q'.2.1 = 1)) ∧ (aI M' (m + 19) (10 + k) = q'.2.2.1 ∧ (q'.2.2.1 = 0 ∨ q'.2.2.1 = 1)) ∧ (aI M' (m + 20) k = q'.2.2.2 ∧ (q'.2.2.2 = 0 ∨ q'.2.2.2 = 1)))
    (ho : ∀ e, e ≠ k → aI M' (m + 1) e = aI M (m + 1) e ∧ (∀ c, c < 8 → aJ M' (m + 2) (8 * e + c) = aJ M (m + 2) (8 * e + c) ∧ aI M' (m + 3) (8 * e + c) = aI M (m + 3) (8 * e + c)) ∧ aI M' (m + 4) e = aI M (m + 4) e ∧ aI M' (m + 19) (10 + e) = aI M (m + 19) (10 + e) ∧ aI M' (m + 20) e = aI M (m + 20) e) : ME m M' (E.set k q') := by
  have hkl : k < E.length := (List.getElem?_eq_some_iff.mp hq).1
  obtain ⟨y1, y2, y3, y4⟩ := mE
  refine ⟨by rw [h768, List.length_set]; exact y1, by rw [List.length_set]; exact y2, fun e r hr => ?_, fun e he1 he2 => ?_⟩
  · rw [List.getElem?_set] at hr
    by_cases e1 : k = e
    · subst e1
      rw [if_pos rfl, if_pos hkl] at hr
      cases hr
      exact hk
    · rw [if_neg e1] at hr
      obtain ⟨z1, z2, z3, z4, z5, z6⟩ := y3 e r hr
      obtain ⟨o1, o2, o3, o4, o5⟩ := ho e (fun z => e1 z.symm)
      refine ⟨z1, by rw [o1]; exact z2, fun c t ht => ?_, by rw [o3]; exact z4, by rw [o4]; exact z5, by rw [o5]; exact z6⟩
      have hc : c < r.1.length := (List.getElem?_eq_some_iff.mp ht).1
      rw [(o2 c (by omega)).1, (o2 c (by omega)).2]
      exact z3 c t ht
  · rw [List.length_set] at he1
    obtain ⟨o1, o2, o3, o4, o5⟩ := ho e (by omega)
    rw [o1, o3, o4, o5]
    exact y4 e he1 he2
/-- flags of an enumeration are written -/
theorem c_flag {k a key : Nat} {q q' : TE} {v : Int32} (hB : XB x M) (hv : PIv x M) (hL : LI M) (hc : cE x M q a) (hx : x + 57 < a) (hkey : key = 193 ∨ key = 194 ∨ key = 195) (hq1 : q'.1 = q.1) (h1 : q'.2.1 = if key = 193 then v else q.2.1) (h2 : q'.2.2.1 = if key = 194 then v else q.2.2.1) (h3 : q'.2.2.2 = if key = 195 then v else q.2.2.2) (hcl : ∀ (M' : Mem) (q' : TE), (∀ as, isL M (x + 1) as → isL M' (x + 1) as) → cE x M' q' a → (∀ q b, b ≠ a → x + 57 < b → cE x M q b → cE x M' q b) → XE x M' (E.set k q')) :
    cE x (sI M key a v) q' a ∧ XE x (sI M key a v) (E.set k q') ∧ Fr x (fun k => k = key) No No No 0 M (sI M key a v) := by
  have f : Fr x (fun k => k = key) No No No 0 M (sI M key a v) := (Fr.rf hv hL).bI (Or.inl ⟨by omega, rfl⟩)
  obtain ⟨c1, c2, c3, c4, c5, c6⟩ := hc
  have cn : cE x (sI M key a v) q' a := by
    refine ⟨c1, c2, ?_, ?_, ?_, ?_⟩
    · rw [gI_sI, h1]
      by_cases e : key = 193
      · rw [if_pos e, e, up2_at]
      · rw [if_neg e, up2_ne (fun z => e z.symm)]; exact c3
    · rw [gI_sI, h2]
      by_cases e : key = 194
      · rw [if_pos e, e, up2_at]
      · rw [if_neg e, up2_ne (fun z => e z.symm)]; exact c4
    · rw [gI_sI, h3]
      by_cases e : key = 195
      · rw [if_pos e, e, up2_at]
      · rw [if_neg e, up2_ne (fun z => e z.symm)]; exact c5
    · rw [hq1]
      exact c6.mono (f.ls id) (fun r c _ h => h.fr f ⟨fun z => by omega, fun z => by omega⟩)
  refine ⟨cn, hcl _ _ (f.ls id) cn (fun r b hne hb hr => ?_), f⟩
  obtain ⟨d1, d2, d3, d4, d5, d6⟩ := hr
  exact ⟨d1, d2, by rw [gI_sI, up2_no hne]; exact d3, by rw [gI_sI, up2_no hne]; exact d4, by rw [gI_sI, up2_no hne]; exact d5, d6.mono (f.ls id) (fun r c _ h => h.fr f ⟨fun z => by omega, fun z => by omega⟩)⟩
theorem op_fails (h : Inv x E R F W O T S jW jO M) (e b : Int32) (hb : b = 0 ∨ b = 1) : Op x W O T jW jO M (fun M => ex 77 5 [pR (some x), pI e, pI b] M) (fun M => ex 169 4 [pR (some (x + 12)), pI e, pI b] M) := by
  obtain ⟨hX, hM, aw⟩ := id h
  obtain ⟨⟨hB, hv, hL⟩, hE, -, -, -, hO, -, -⟩ := id hX
  obtain ⟨mB, mE, -, -, -, mO, -, -⟩ := id hM
  have hEl := mE.2.1
  rcases oob_or e E.length (by omega) with ho | ⟨k, hk, rfl⟩
  · refine Op.keep h (v := pI (-1)) ?_ ?_
    · show ex 77 5 [pR (some x), pI e, pI b] M = _
      rw [tX11_fails]
      exact rd_i rfl hB.k (clR_i (c_enumAt_no hB hE ho) (it_t rfl rfl))
    · show ex 169 4 [pR (some (x + 12)), pI e, pI b] M = _
      rw [tX12_fails]
      exact rd_i rfl mB.k (clI_i (m_isEnum_no mB mE ho) (it_f (not_not_intro rfl) rfl))
  have hq : E[k]? = some E[k] := List.getElem?_eq_getElem hk
  generalize E[k] = q at hq
  obtain ⟨a, c107, hxa, hc, hcl⟩ := c_enumAt hB hE hq
  by_cases ho : O = []
  · have c0 := (ob0 hO).mpr ho
    obtain ⟨cn, hE1, f⟩ := c_flag (q' := (q.1, b, q.2.2)) (v := b) hB hv hL hc hxa (Or.inl rfl) rfl (by rw [if_pos rfl]) (by rw [if_neg (by decide)]) (by rw [if_neg (by decide)]) hcl
    have hX1 := hX.frE f (fun k q => by omega) (fun l q => q.elim) hE1
    obtain ⟨g1, g2, g3, g4, g5, g6⟩ := mE.2.2.1 k q hq
    refine Op.chg (E' := E.set k (q.1, b, q.2.2)) (v := pI q.2.1) h (M1 := sI M 193 a b) ?_ (f.mo (Nat.le_refl _) (fun k q => by subst q; decide) (fun _ q => q.elim) (fun _ q => q.elim) (fun _ q => q.elim)) hX1 (fun hM1 => ?_) ?_ (by omega)
    · show ex 77 5 [pR (some x), pI (nI k), pI b] M = _
      rw [tX11_fails]
      refine rd_i rfl hB.k (clR_i c107 (it_f (fun q => nomatch q) (rd_i rfl hB.k (it_t c0 (rd_i rfl hc.1 ?_)))))
      rcases g4.2 with z | z
      · rw [z]
        exact it_t (hc.2.2.1.trans z) (rd_i rfl hc.1 (zo_i hb (bd_i rfl)))
      · rw [z]
        exact it_f (fun w => by rw [hc.2.2.1, z] at w; exact absurd w (by decide)) (rd_i rfl hc.1 (zo_i hb (bd_i rfl)))
    · obtain ⟨mB1, mE1, mR1, mF1, mW1, mO1, mL1, mS1⟩ := id hM1
      obtain ⟨z1, z2, z3, z4, z5, z6⟩ := mE1.2.2.1 k q hq
      have d1 := (mb0 mO1).mpr ho
      generalize sI M 193 a b = M1 at hM1 mB1 mE1 mR1 mF1 mW1 mO1 mL1 mS1 z1 z2 z3 z4 z5 z6 d1 ⊢
      refine ⟨wI M1 (x + 12 + 4) k b, ?_, CU.rf.bAI (by omega), hM1.ue ⟨⟨rfl, rfl, rfl⟩, fun _ _ => rfl, fun i h5 h19 h20 => ⟨?_, rfl⟩, fun r _ => ?_⟩ (ME_set mE1 hq rfl ⟨z1, ?_, fun c r hr => ?_, ⟨?_, hb⟩, ⟨?_, z5.2⟩, ⟨?_, z6.2⟩⟩ (fun e he => ⟨?_, fun c hc => ⟨rfl, ?_⟩, ?_, ?_, ?_⟩))⟩
      · show ex 169 4 [pR (some (x + 12)), pI (nI k), pI b] M1 = _
        rw [tX12_fails]
        refine rd_i rfl mB1.k (clI_i (m_isEnum mB1 mE1 hk) (it_t (by decide) (rd_i rfl mB1.k (it_t d1 (rd_i rfl mB1.k (ix_m mB1.a4 rfl (by omega) (by omega) ?_))))))
        rw [z4.1]
        rcases z4.2 with z | z
        · rw [z]
          exact it_t rfl (rd_i rfl mB1.k (ix_m mB1.a4 rfl (by omega) (by omega) (zo_i hb (bd_i rfl))))
        · rw [z]
          exact it_f (by decide) (rd_i rfl mB1.k (ix_m mB1.a4 rfl (by omega) (by omega) (zo_i hb (bd_i rfl))))
      · exact a_ne (by omega)
      · rw [aI_wI, up1_no (by omega)]
      · rw [aI_wI, up1_no (by omega)]; exact z2
      · rw [aI_wI, up1_no (by omega)]; exact z3 c r hr
      · rw [aI_wI, up1_at, up1_at]
      · rw [aI_wI, up1_no (by omega)]; exact z5.1
      · rw [aI_wI, up1_no (by omega)]; exact z6.1
      · rw [aI_wI, up1_no (by omega)]
      · rw [aI_wI, up1_no (by omega)]
      · rw [aI_wI, up1_at, up1_no he]
      · rw [aI_wI, up1_no (by omega)]
      · rw [aI_wI, up1_no (by omega)]
    · subst ho
      exact awE aw (by rw [List.length_set]; omega) (cntE_set hq rfl)
  · refine Op.keep h (v := pI (-2)) ?_ ?_
    · show ex 77 5 [pR (some x), pI (nI k), pI b] M = _
      rw [tX11_fails]
      exact rd_i rfl hB.k (clR_i c107 (it_f (fun q => nomatch q) (rd_i rfl hB.k (it_f (fun q => ho ((ob0 hO).mp q)) rfl))))
    · show ex 169 4 [pR (some (x + 12)), pI (nI k), pI b] M = _
      rw [tX12_fails]
      exact rd_i rfl mB.k (clI_i (m_isEnum mB mE hk) (it_t (by decide) (rd_i rfl mB.k (it_f (fun q => ho ((mb0 mO).mp q)) rfl))))
end OPS
