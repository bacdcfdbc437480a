/-! CALLS on enumerations: exchange, forget -/
section OPS
variable {x : Nat} {E E' : List TE} {R R' : List TR} {F F' : List TF} {W W' : List TW} {O O' : List TO} {T T' : List TL} {S S' : TS} {jW jO jW' jO' n : Nat} {M M1 : Mem}
theorem UE.tr {m : Nat} {M M1 M2 : Mem} (h : UE m M M1) (g : UE m M1 M2) : UE m M M2 := by
  obtain ⟨⟨a1, a2, a3⟩, b, c, d⟩ := h
  obtain ⟨⟨a1', a2', a3'⟩, b', c', d'⟩ := g
  exact ⟨⟨a1'.trans a1, a2'.trans a2, a3'.trans a3⟩, fun k hk => (b' k hk).trans (b k hk), fun i x y z => ⟨(c' i x y z).1.trans (c i x y z).1, (c' i x y z).2.trans (c i x y z).2⟩, fun r hr => (d' r hr).trans (d r hr)⟩
theorem UE.rf {m : Nat} {M : Mem} : UE m M M := ⟨⟨rfl, rfl, rfl⟩, fun _ _ => rfl, fun _ _ _ _ => ⟨rfl, rfl⟩, fun _ _ => rfl⟩
theorem UE.wI {m j p : Nat} {v : Int32} {M M1 : Mem} (h : UE m M M1) (hj : j ≤ 4) : UE m M (wI M1 (m + j) p v) := h.tr ⟨⟨rfl, rfl, rfl⟩, fun _ _ => rfl, fun i h5 _ _ => ⟨by rw [aI_wI, up1_no (by omega)], rfl⟩, fun r _ => by rw [aI_wI, up1_no (by omega)]⟩
theorem UE.wJ {m j p : Nat} {v : Int64} {M M1 : Mem} (h : UE m M M1) (hj : j ≤ 4) : UE m M (wJ M1 (m + j) p v) := h.tr ⟨⟨rfl, rfl, rfl⟩, fun _ _ => rfl, fun i h5 _ _ => ⟨rfl, by rw [aJ_wJ, up1_no (by omega)]⟩, fun r _ => rfl⟩
theorem CU.wI {m a p : Nat} {v : Int32} {M M1 : Mem} (h : CU m M M1) (ha : m < a ∧ a ≤ m + 45) : CU m M (wI M1 a p v) := h.bAI ha
theorem CU.wJ {m a p : Nat} {v : Int64} {M M1 : Mem} (h : CU m M M1) (ha : m < a ∧ a ≤ m + 45) : CU m M (wJ M1 a p v) := h.bAJ ha
/-- an enumeration's list of constants has changed, nothing else of it -/
theorem c_consts {k a : Nat} {q q' : TE} {M' : Mem} {n : Nat} (hv : PIv x M) (hc : cE x M q a) (hx : x + 57 < a) (f : Fr x No (fun l => l = a + 1) No No n M M') (h2 : q'.2 = q.2) (hl : isO M' x (a + 1) (cC M') q'.1) (hcl : ∀ (M' : Mem) (q' : TE), (∀ as, isL M (x + 1) as → isL M' (x + 1) as) → cE x M' q' a → (∀ q b, b ≠ a → x + 57 < b → cE x M q b → cE x M' q b) → XE x M' (E.set k q')) : cE x M' q' a ∧ XE x M' (E.set k q') := by
  have ha := lt_of_kd hv hc.1 (by omega)
  obtain ⟨c1, c2, c3, c4, c5, c6⟩ := hc
  have cn : cE x M' q' a := ⟨by rw [f.fk ha]; exact c1, by rw [f.fR (by omega) ha id]; exact c2, by rw [f.fI (by omega) ha id, h2]; exact c3, by rw [f.fI (by omega) ha id, h2]; exact c4, by rw [f.fI (by omega) ha id, h2]; exact c5, hl⟩
  exact ⟨cn, hcl M' _ (f.ls (fun q => by omega)) cn (fun r d hne hd hr => hr.fr f (fun _ _ => id) (fun q => by omega))⟩
theorem op_exchange (h : Inv x E R F W O T S jW jO M) (e a b : Int32) : Op x W O T jW jO M (fun M => ex 75 7 [pR (some x), pI e, pI a, pI b] M) (fun M => ex 167 7 [pR (some (x + 12)), pI e, pI a, pI b] M) := by
  obtain ⟨hX, hM, aw⟩ := id h
  obtain ⟨⟨hB, hv, hL⟩, hE, -, -, -, hO, -, -⟩ := id hX
  obtain ⟨mB, mE, -, -, -, mO, -, -⟩ := id hM
  have hEl := mE.2.1
  rcases oob_or e E.length (by omega) with ho | ⟨k, hk, rfl⟩
  · refine Op.keep h (v := pI (-1)) ?_ ?_
    · show ex 75 7 [pR (some x), pI e, pI a, pI b] M = _
      rw [tX11_exchange]
      exact rd_i rfl hB.k (clR_i (c_enumAt_no hB hE ho) (it_t rfl rfl))
    · show ex 167 7 [pR (some (x + 12)), pI e, pI a, pI b] M = _
      rw [tX12_exchange]
      exact rd_i rfl mB.k (clI_i (m_isConst_no0 mB mE ho) (it_t rfl rfl))
  have hq : E[k]? = some E[k] := List.getElem?_eq_getElem hk
  generalize E[k] = q at hq
  obtain ⟨ea, c107, hxa, hc, hcl⟩ := c_enumAt hB hE hq
  obtain ⟨g1, g2, g3, g4, g5, g6⟩ := mE.2.2.1 k q hq
  have hlen := hc.2.2.2.2.2.len
  -- the second constant is looked for, whatever the first
  have second : ∃ r, ex 46 3 [pR (some ea), pJ b.toInt64] M = some (some (pR r), M) := by
    rcases oob_or b q.1.length (by omega) with hb | ⟨j, hj, rfl⟩
    · exact ⟨none, c_constAt_no hc (oobL (by omega) hb)⟩
    · obtain ⟨kk, y1, -⟩ := c_constAt hc (List.getElem?_eq_getElem hj)
      rw [nI_l (by omega)]
      exact ⟨some kk, y1⟩
  rcases oob_or a q.1.length (by omega) with ha | ⟨i, hi, rfl⟩
  · obtain ⟨r, hr⟩ := second
    refine Op.keep h (v := pI (-1)) ?_ ?_
    · show ex 75 7 [pR (some x), pI (nI k), pI a, pI b] M = _
      rw [tX11_exchange]
      exact rd_i rfl hB.k (clR_i c107 (it_f (fun q => nomatch q) (rd_i rfl hc.1 (clR_i (c_constAt_no hc (oobL (by omega) ha)) (rd_i rfl hc.1 (clR_i hr (it_t rfl rfl)))))))
    · show ex 167 7 [pR (some (x + 12)), pI (nI k), pI a, pI b] M = _
      rw [tX12_exchange]
      exact rd_i rfl mB.k (clI_i (m_isConst_no mB mE hq ha) (it_t rfl rfl))
  have hqi : q.1[i]? = some q.1[i] := List.getElem?_eq_getElem hi
  obtain ⟨ka, ca1, ca2, ca3, ca4⟩ := c_constAt hc hqi
  rcases oob_or b q.1.length (by omega) with hb | ⟨j, hj, rfl⟩
  · refine Op.keep h (v := pI (-1)) ?_ ?_
    · show ex 75 7 [pR (some x), pI (nI k), pI (nI i), pI b] M = _
      rw [tX11_exchange, nI_l (by omega)]
      exact rd_i rfl hB.k (clR_i c107 (it_f (fun q => nomatch q) (rd_i rfl hc.1 (clR_i ca1 (rd_i rfl hc.1 (clR_i (c_constAt_no hc (oobL (by omega) hb)) (it_f (fun q => nomatch q) (it_t rfl rfl))))))))
    · show ex 167 7 [pR (some (x + 12)), pI (nI k), pI (nI i), pI b] M = _
      rw [tX12_exchange]
      exact rd_i rfl mB.k (clI_i (m_isConst mB mE hq hi) (it_f (by decide) (rd_i rfl mB.k (clI_i (m_isConst_no mB mE hq hb) (it_f (not_not_intro rfl) rfl)))))
  have hqj : q.1[j]? = some q.1[j] := List.getElem?_eq_getElem hj
  obtain ⟨kb, cb1, cb2, cb3, cb4⟩ := c_constAt hc hqj
  by_cases ho : O = []
  · have c0 := (ob0 hO).mpr ho
    obtain ⟨ka', kb', v1, v2, Ma, M1, w1, w2, w3, w4, w5, w6, w7, w8, w9, w10⟩ := isO.swap hc.2.2.2.2.2 hv hL hqi hqj (fun r c h => by have := h.1; omega)
    rw [ca4] at w1
    rw [cb4] at w2
    cases w1
    cases w2
    have f1 : Fr x No (fun l => l = ea + 1) No No (0 + 24) M Ma := (Fr.rf hv hL).bL w5 w7 (Or.inl rfl)
    have f2 : Fr x No (fun l => l = ea + 1) No No (0 + 24 + 24) M M1 := f1.bL w6 w8 (Or.inl rfl)
    have kea : kd Ma ea = 3 := by rw [f1.fk (lt_of_kd hv hc.1 (by omega))]; exact hc.1
    have kl : kd Ma (ea + 1) = 0 := by rw [f1.fk (lt_of_kd hv hc.2.2.2.2.2.k (by omega))]; exact hc.2.2.2.2.2.k
    obtain ⟨cn, hE1⟩ := c_consts (q' := ((q.1.set i q.1[j]).set j q.1[i], q.2)) hv hc hxa f2 rfl (w10 _ (fun r c _ h => h.fr f2 ⟨id, id⟩)) hcl
    have hX1 := hX.frE f2 (fun _ q => q.elim) (fun l q => Or.inr ⟨by omega, by rw [q, Nat.add_sub_cancel]; exact hc.1⟩) hE1
    refine Op.chg (E' := E.set k ((q.1.set i q.1[j]).set j q.1[i], q.2)) (v := pI 1) h (M1 := M1) ?_ (f2.mo (n' := 48) (by omega) (fun _ q => q.elim) (fun l q => by omega) (fun _ q => q.elim) (fun _ q => q.elim)) hX1 (fun hM1 => ?_) ?_ (by omega)
    · show ex 75 7 [pR (some x), pI (nI k), pI (nI i), pI (nI j)] M = _
      rw [tX11_exchange, nI_l (by omega), nI_l (by omega)]
      refine rd_i rfl hB.k (clR_i c107 (it_f (fun q => nomatch q) (rd_i rfl hc.1 (clR_i ca1 (rd_i rfl hc.1 (clR_i cb1 (it_f (fun q => nomatch q) (it_f (fun q => nomatch q) (rd_i rfl hB.k (it_t c0 (rd_i rfl hc.1 (rd_i hc.2.1 hc.2.2.2.2.2.k (clR_i w3 (rd_i rfl kea (rd_i ?_ kl (clR_i w4 rfl))))))))))))))))
      rw [w9]; exact hc.2.1
    · obtain ⟨mB1, mE1, mR1, mF1, mW1, mO1, mL1, mS1⟩ := id hM1
      obtain ⟨z1, z2, z3, z4, z5, z6⟩ := mE1.2.2.1 k q hq
      have d1 := (mb0 mO1).mpr ho
      obtain ⟨yi1, yi2, yi3⟩ := z3 i _ hqi
      obtain ⟨yj1, yj2, yj3⟩ := z3 j _ hqj
      refine ⟨wI (wJ (wI (wJ M1 (x + 12 + 2) (8 * k + i) q.1[j].1) (x + 12 + 3) (8 * k + i) q.1[j].2) (x + 12 + 2) (8 * k + j) q.1[i].1) (x + 12 + 3) (8 * k + j) q.1[i].2, ?_, (((CU.rf.wJ (by omega)).wI (by omega)).wJ (by omega)).wI (by omega), hM1.ue ((((UE.rf.wJ (by omega)).wI (by omega)).wJ (by omega)).wI (by omega)) (ME_set mE1 hq (by simp only [gI_wI, gI_wJ]) ⟨by simpa using z1, ?_, fun c r hr => ?_, ⟨?_, z4.2⟩, ⟨?_, z5.2⟩, ⟨?_, z6.2⟩⟩ (fun e he => ⟨?_, fun c hc => ⟨?_, ?_⟩, ?_, ?_, ?_⟩))⟩
      · show ex 167 7 [pR (some (x + 12)), pI (nI k), pI (nI i), pI (nI j)] M1 = _
        rw [tX12_exchange]
        refine rd_i rfl mB1.k (clI_i (m_isConst mB1 mE1 hq hi) (it_f (by decide) (rd_i rfl mB1.k (clI_i (m_isConst mB1 mE1 hq hj) (it_t (by decide) (rd_i rfl mB1.k (it_t d1 (rd_i rfl mB1.k (ix_m mB1.a2 (m8 k i) (by omega) (by omega) (rd_i rfl mB1.k (ix_m mB1.a3 (m8 k i) (by omega) (by omega) (rd_i rfl mB1.k (rd_i rfl mB1.k (ix_m mB1.a2 (m8 k j) (by omega) (by omega) (ix_m mB1.a2 (m8 k i) (by omega) (by omega) (bd_i ?_))))))))))))))))
        rw [yi1, yi2, yj1]
        have e2 : aI (wJ M1 (x + 12 + 2) (8 * k + i) q.1[j].1) (x + 12 + 3) (8 * k + j) = q.1[j].2 := yj2
        have mB2 : MB (x + 12) (wJ M1 (x + 12 + 2) (8 * k + i) q.1[j].1) := mB1.wJ
        generalize wJ M1 (x + 12 + 2) (8 * k + i) q.1[j].1 = M2 at e2 mB2 ⊢
        refine rd_i rfl mB2.k (rd_i rfl mB2.k (ix_m mB2.a3 (m8 k j) (by omega) (by omega) (ix_m mB2.a3 (m8 k i) (by omega) (by omega) ?_)))
        rw [e2]
        refine zo_i yj3 (bd_i ?_)
        have mB3 : MB (x + 12) (wI M2 (x + 12 + 3) (8 * k + i) q.1[j].2) := mB2.wI
        generalize wI M2 (x + 12 + 3) (8 * k + i) q.1[j].2 = M3 at mB3 ⊢
        refine rd_i rfl mB3.k (ix_m mB3.a2 (m8 k j) (by omega) (by omega) (bd_i ?_))
        have mB4 : MB (x + 12) (wJ M3 (x + 12 + 2) (8 * k + j) q.1[i].1) := mB3.wJ
        generalize wJ M3 (x + 12 + 2) (8 * k + j) q.1[i].1 = M4 at mB4 ⊢
        exact rd_i rfl mB4.k (ix_m mB4.a3 (m8 k j) (by omega) (by omega) (zo_i yi3 (bd_i rfl)))
      · simp only [aI_wI, aI_wJ, List.length_set]; rw [up1_no (by omega), up1_no (by omega)]; exact z2
      · simp only [aI_wI, aI_wJ, aJ_wI, aJ_wJ, up1_at]
        rw [List.getElem?_set, List.getElem?_set] at hr
        by_cases q1 : j = c
        · rw [if_pos q1, if_pos (by rw [List.length_set]; omega)] at hr
          cases hr
          subst q1
          rw [up1_at, up1_at]
          exact ⟨rfl, rfl, yi3⟩
        · rw [if_neg q1] at hr
          rw [up1_no (show 8 * k + c ≠ 8 * k + j by omega), up1_no (show 8 * k + c ≠ 8 * k + j by omega)]
          by_cases q2 : i = c
          · rw [if_pos q2, if_pos hi] at hr
            cases hr
            subst q2
            rw [up1_at, up1_at]
            exact ⟨rfl, rfl, yj3⟩
          · rw [if_neg q2] at hr
            rw [up1_no (show 8 * k + c ≠ 8 * k + i by omega), up1_no (show 8 * k + c ≠ 8 * k + i by omega)]
            exact z3 c r hr
      · simp only [aI_wI, aI_wJ]; rw [up1_no (by omega), up1_no (by omega)]; exact z4.1
      · simp only [aI_wI, aI_wJ]; rw [up1_no (by omega), up1_no (by omega)]; exact z5.1
      · simp only [aI_wI, aI_wJ]; rw [up1_no (by omega), up1_no (by omega)]; exact z6.1
      · simp only [aI_wI, aI_wJ]; rw [up1_no (by omega), up1_no (by omega)]
      · simp only [aJ_wI, aJ_wJ, up1_at]; rw [up1_no (by omega), up1_no (by omega)]
      · simp only [aI_wI, aI_wJ, up1_at]; rw [up1_no (by omega), up1_no (by omega)]
      · simp only [aI_wI, aI_wJ]; rw [up1_no (by omega), up1_no (by omega)]
      · simp only [aI_wI, aI_wJ]; rw [up1_no (by omega), up1_no (by omega)]
      · simp only [aI_wI, aI_wJ]; rw [up1_no (by omega), up1_no (by omega)]
    · subst ho
      exact awE aw (by rw [List.length_set]; omega) (cntE_set hq rfl)
  · refine Op.keep h (v := pI (-2)) ?_ ?_
    · show ex 75 7 [pR (some x), pI (nI k), pI (nI i), pI (nI j)] M = _
      rw [tX11_exchange, nI_l (by omega), nI_l (by omega)]
      exact rd_i rfl hB.k (clR_i c107 (it_f (fun q => nomatch q) (rd_i rfl hc.1 (clR_i ca1 (rd_i rfl hc.1 (clR_i cb1 (it_f (fun q => nomatch q) (it_f (fun q => nomatch q) (rd_i rfl hB.k (it_f (fun q => ho ((ob0 hO).mp q)) rfl))))))))))
    · show ex 167 7 [pR (some (x + 12)), pI (nI k), pI (nI i), pI (nI j)] M = _
      rw [tX12_exchange]
      exact rd_i rfl mB.k (clI_i (m_isConst mB mE hq hi) (it_f (by decide) (rd_i rfl mB.k (clI_i (m_isConst mB mE hq hj) (it_t (by decide) (rd_i rfl mB.k (it_f (fun q => ho ((mb0 mO).mp q)) rfl)))))))
/-- a row from which one is taken out: those behind it move -/
def shf {α : Type} (f : Nat → α) (a b : Nat) : Nat → α := fun p => if a ≤ p ∧ p < b then f (p + 1) else f p
theorem shf_0 {α : Type} (f : Nat → α) (a : Nat) : shf f a a = f := funext fun p => if_neg (by omega)
theorem shf_s {α : Type} (f : Nat → α) {a b : Nat} (h : a ≤ b) : up1 (shf f a b) b (shf f a b (b + 1)) = shf f a (b + 1) := by
  funext p
  unfold up1 shf
  by_cases e : p = b
  · rw [if_pos e, if_neg (by omega), if_pos (by omega), e]
  · rw [if_neg e]
    by_cases e2 : a ≤ p ∧ p < b
    · rw [if_pos e2, if_pos (by omega)]
    · rw [if_neg e2, if_neg (by omega)]
/-- the model's rows of names on the way -/
def ShE (m k c i : Nat) (M0 M : Mem) : Prop := MB m M ∧ CU m M0 M ∧ UE m M0 M ∧ gI M 768 m = gI M0 768 m ∧ aI M (m + 1) = aI M0 (m + 1) ∧ aI M (m + 4) = aI M0 (m + 4) ∧ aI M (m + 19) = aI M0 (m + 19) ∧ aI M (m + 20) = aI M0 (m + 20) ∧ aJ M (m + 2) = shf (aJ M0 (m + 2)) (8 * k + c) (8 * k + i) ∧ aI M (m + 3) = shf (aI M0 (m + 3)) (8 * k + c) (8 * k + i)
theorem m_forget_loop {m k c len : Nat} {M0 : Mem} (hk : k < 4) (hlen : len < 8) (hc : c ≤ len) (h01 : ∀ p, p < 32 → aI M0 (m + 3) p = 0 ∨ aI M0 (m + 3) p = 1 ∨ 8 * k + len < p ∨ p < 8 * k) (hn : aI M0 (m + 1) k = nI len) : ∀ (n i : Nat) (M : Mem), n + i = len → c ≤ i → ShE m k c i M0 M → ∃ M', rn PP 168 33 [some (pR (some m)), some (pI (nI k)), none, some (pI (nI i))] [] M = some (some (pI (nI len)), M') ∧ ShE m k c len M0 M' := by
  intro n
  induction n with
  | zero =>
    intro i M hi hci hS
    have hi : i = len := by omega
    subst hi
    obtain ⟨mB, s⟩ := id hS
    refine ⟨M, ?_, hS⟩
    have hg : aI M (m + 1) k = nI i := by rw [s.2.2.2.1]; exact hn
    rw [tX12_forget_33]
    refine rd_i rfl mB.k (ix_m mB.a1 rfl (by omega) (by omega) ?_)
    rw [hg]
    refine it_t (nI_le (Nat.le_refl _) (by omega)) (rd_i rfl mB.k (ix_m mB.a1 rfl (by omega) (by omega) ?_))
    rw [hg]
  | succ n ih =>
    intro i M hi hci hS
    obtain ⟨mB, cu, ue, s1, s2, s3, s4, s5, s6, s7⟩ := id hS
    have hg : aI M (m + 1) k = nI len := by rw [s2]; exact hn
    have m81 : (8 : Int32) * nI k + nI i + 1 = nI (8 * k + (i + 1)) := by rw [m8, nI_1]; rfl
    have hv : aI M (m + 3) (8 * k + (i + 1)) = 0 ∨ aI M (m + 3) (8 * k + (i + 1)) = 1 := by
      rw [s7]
      unfold shf
      rw [if_neg (by omega)]
      rcases h01 (8 * k + (i + 1)) (by omega) with z | z | z | z
      · exact Or.inl z
      · exact Or.inr z
      · omega
      · omega
    have hS2 : ShE m k c (i + 1) M0 (wI (wJ M (m + 2) (8 * k + i) (aJ M (m + 2) (8 * k + (i + 1)))) (m + 3) (8 * k + i) (aI M (m + 3) (8 * k + (i + 1)))) := by
      refine ⟨mB, (cu.wJ (by omega)).wI (by omega), (ue.wJ (by omega)).wI (by omega), s1, ?_, ?_, ?_, ?_, ?_, ?_⟩
      · simp only [aI_wI, aI_wJ]; rw [up1_no (by omega)]; exact s2
      · simp only [aI_wI, aI_wJ]; rw [up1_no (by omega)]; exact s3
      · simp only [aI_wI, aI_wJ]; rw [up1_no (by omega)]; exact s4
      · simp only [aI_wI, aI_wJ]; rw [up1_no (by omega)]; exact s5
      · simp only [aJ_wI, aJ_wJ]; rw [up1_at, s6]; exact shf_s _ (by omega)
      · simp only [aI_wI, aI_wJ]; rw [up1_at, s7]; exact shf_s _ (by omega)
    obtain ⟨M', e1, e2⟩ := ih (i + 1) _ (by omega) (by omega) hS2
    refine ⟨M', ?_, e2⟩
    rw [tX12_forget_33]
    refine rd_i rfl mB.k (ix_m mB.a1 rfl (by omega) (by omega) ?_)
    rw [hg]
    refine it_f (nI_ge (by omega) (by omega)) (rd_i rfl mB.k (rd_i rfl mB.k (ix_m mB.a2 m81 (by omega) (by omega) (ix_m mB.a2 (m8 k i) (by omega) (by omega) (bd_i ?_)))))
    have mB2 : MB m (wJ M (m + 2) (8 * k + i) (aJ M (m + 2) (8 * k + (i + 1)))) := mB.wJ
    have e3 : aI (wJ M (m + 2) (8 * k + i) (aJ M (m + 2) (8 * k + (i + 1)))) (m + 3) (8 * k + (i + 1)) = aI M (m + 3) (8 * k + (i + 1)) := rfl
    generalize wJ M (m + 2) (8 * k + i) (aJ M (m + 2) (8 * k + (i + 1))) = M2 at mB2 e3 e1 ⊢
    refine rd_i rfl mB2.k (rd_i rfl mB2.k (ix_m mB2.a3 m81 (by omega) (by omega) (ix_m mB2.a3 (m8 k i) (by omega) (by omega) ?_)))
    rw [e3]
    refine zo_i hv (bd_i ?_)
    rw [nI_1]
    exact e1
end OPS
