/-! ROWS: addRow, newRow, row -/
section OPS
variable {x : Nat} {E E' : List TE} {R R' : List TR} {F F' : List TF} {W W' : List TW} {O O' : List TO} {T T' : List TL} {S S' : TS} {jW jO jW' jO' n : Nat} {M M' M1 : Mem}
/-- two frames, the second one's sets looked at only where there was something before the first -/
theorem Fr.trN {K L AI AJ K2 L2 AI2 AJ2 : Nat → Prop} {base n2 : Nat} {M2 : Mem} (h : Fr base K L AI AJ n M M1) (g : Fr base K2 L2 AI2 AJ2 n2 M1 M2) (hK : ∀ k, K2 k → K k) (hL : ∀ l, l < mT M → L2 l → L l) (hI : ∀ a, a < mT M → AI2 a → AI a) (hJ : ∀ a, a < mT M → AJ2 a → AJ a) : Fr base K L AI AJ (n + n2) M M2 := by
  obtain ⟨⟨a1, a2, a3, a4, a5⟩, b, c, d, e, f, i, j⟩ := h
  obtain ⟨⟨a1', a2', a3', a4', a5'⟩, b', c', d', e', f', i', j'⟩ := g
  refine ⟨⟨by omega, by omega, by omega, by omega, a5'.trans a5⟩, ⟨b.1, b'.2⟩, c', fun a ha => ?_, fun k a hk ha hn => ?_, fun a ha hn => (f' a (by omega) (fun q => hn (hI a ha q))).trans (f a ha hn), fun a ha hn => (i' a (by omega) (fun q => hn (hJ a ha q))).trans (i a ha hn), fun l as hn hl => j' l as (fun q => hn (hL l (hl.lt b.1) q)) (j l as hn hl)⟩
  · obtain ⟨x1, x2, x3⟩ := d a ha
    obtain ⟨y1, y2, y3⟩ := d' a (by omega)
    exact ⟨y1.trans x1, y2.trans x2, fun h24 => (y3 (x1.trans h24)).trans (x3 h24)⟩
  · obtain ⟨x1, x2, x3⟩ := e k a hk ha hn
    obtain ⟨y1, y2, y3⟩ := e' k a hk (by omega) (fun q => hn (hK k q))
    exact ⟨y1.trans x1, y2.trans x2, y3.trans x3⟩
/-- what addRow may change -/
abbrev KW : Nat → Prop := fun k => k = 640 ∨ k = 641 ∨ k = 708
abbrev JW (x : Nat) (M : Mem) : Nat → Prop := fun d => x + 58 < d ∧ kd M (d - 1) = 10
theorem c_reuse_at {p : Int32} {k : Nat} (hX : XI x E R F W O T S (jW + 1) jO M) (hk : k ≤ 16) : ∃ a M', ex 16 2 [pR (some (x + 4)), pI (nI W.length)] M = some (some (pR (some a)), M) ∧ kd M a = 10 ∧ ex 70 3 [pR (some a), pI p, pI (nI k)] M = some (none, M') ∧ XB x M' ∧ XI x E R F (W ++ [(p, List.replicate k 0)]) O T S jW jO (sI M' 708 x (nI W.length + 1)) ∧ Fr x KW No No (JW x M) 0 M (sI M' 708 x (nI W.length + 1)) ∧ gI M' 708 x = nI W.length := by
  obtain ⟨⟨hB, hv, hL⟩, -, -, -, hW, -, -, -⟩ := id hX
  have hat : (W.map some ++ List.replicate (jW + 1) none)[W.length]? = some none := by
    rw [List.getElem?_append_right (by rw [List.length_map]; exact Nat.le_refl _), List.length_map, Nat.sub_self]
    rfl
  obtain ⟨a, g1, g2, g3, g4, -⟩ := hW.1.at hat
  obtain ⟨M', e70, cn, f1, hg, hT, hR⟩ := c_reuse (p := p) (k := k) g3 hv hL hk
  have hlt := hB.lt
  have hW1 := g4 M' (cW M') (some (p, List.replicate k 0)) (f1.ls id) cn (fun q b hne hb hr => by
    obtain ⟨r1, r2, r3, r4, r5⟩ := hr
    have kb := lt_of_kd hv r1 (by omega)
    have kb1 := lt_of_kd hv r3 (by omega)
    refine ⟨by rw [f1.fk kb]; exact r1, by rw [hR]; exact r2, by rw [f1.fk kb1]; exact r3, by rw [f1.fl kb1]; exact r4, fun w hw => ?_⟩
    obtain ⟨s1, s2, s3, s4⟩ := r5 w hw
    exact ⟨by rw [hg _ _ hne]; exact s1, by rw [hg _ _ hne]; exact s2, s3, fun i v hv => by rw [f1.eJ kb1 (fun q => by omega)]; exact s4 i v hv⟩)
  have h708 : gI M' 708 x = nI W.length := by rw [f1.fI (by omega) (by omega) (by decide)]; exact hW.2
  have ka := g3.1
  have f2 : Fr x KW No No (JW x M) 0 M M' := f1.mo (Nat.le_refl _) (fun k q => by omega) (fun _ => id) (fun _ => id) (fun d q => by subst q; exact ⟨by omega, by rw [Nat.add_sub_cancel]; exact ka⟩)
  have f3 : Fr x KW No No (JW x M) 0 M (sI M' 708 x (nI W.length + 1)) := f2.bI (Or.inl ⟨by omega, Or.inr (Or.inr rfl)⟩)
  have f4 : Fr x (fun k => k = 708) No No No 0 M' (sI M' 708 x (nI W.length + 1)) := (Fr.rf f1.v f1.li).bI (Or.inl ⟨by omega, rfl⟩)
  refine ⟨a, M', g1, g3.1, e70, hB.fr f1 (by decide) (fun _ _ => id), ?_, f3, h708⟩
  refine hX.frW f3 (fun k q => by omega) (fun _ q => q.elim) (fun d q => q) ⟨?_, ?_⟩
  · have e1 : (W.map some ++ List.replicate (jW + 1) none).set W.length (some (p, List.replicate k 0)) = (W ++ [(p, List.replicate k 0)]).map some ++ List.replicate jW none := by
      rw [List.set_append_right _ _ (by rw [List.length_map]; exact Nat.le_refl _), List.length_map, Nat.sub_self, List.replicate_succ, List.set_cons_zero, List.map_append, List.append_assoc]
      rfl
    rw [e1] at hW1
    exact isO.mono hW1 (f4.ls id) (fun q b _ h => h.fr f4 (by decide) id)
  · rw [gI_sI, up2_at, List.length_append, nI_1]
    rfl
theorem row_init {Ma : Mem} {a : Nat} {K L AI AJ : Nat → Prop} (f : Fr x K L AI AJ n M Ma) (haM : mT M ≤ a) (ha : mT Ma = a + 1) (hk : kd Ma a = 10) : ∃ Mc, ex 69 1 [pR (some a)] Ma = some (none, Mc) ∧ Fr x K L AI AJ (n + 1) M Mc ∧ cW Mc none a ∧ (∀ k b, b ≠ a → gR Mc k b = gR Ma k b ∧ gI Mc k b = gI Ma k b) := by
  have h16 : (16 : Int32).toNatClampNeg = 16 := by decide
  have k0 : kd (nA Ma 21 16) a = 10 := by rw [kd_nA, up1_no (by omega)]; exact hk
  refine ⟨sF (nA Ma 21 16) 642 a (some (mT Ma)), ?_, (f.bA (by omega) (by omega) (by omega)).bF (Or.inr ⟨haM, Or.inl (by omega)⟩), ⟨?_, ?_, ?_, ?_, fun w hw => nomatch hw⟩, fun k b hb => ⟨?_, rfl⟩⟩
  · rw [tX10_init, h16]
    exact nn_i rfl (gd_i (by decide) (bd_i (rd_i rfl k0 (bd_i rfl))))
  · rw [kd_sF]; exact k0
  · rw [gR_sF, up2_at, ha]
  · rw [kd_sF, kd_nA, ← ha, up1_at]
  · rw [ln_sF, ln_nA, ← ha, up1_at]
  · rw [gR_sF, up2_no hb, gR_nA]
theorem c_newRowO (hX : XI x E R F W O T S 0 jO M) (hl : W.length ≤ 1000) : ∃ Mc M1, ex 69 1 [pR (some (mT M))] (nO M 10 3) = some (none, Mc) ∧ XB x Mc ∧ ex 19 2 [pR (some (x + 4)), pR (some (mT M))] Mc = some (some (pI 1), M1) ∧ XI x E R F W O T S 1 jO M1 ∧ Fr x No (fun l => l = x + 4) No No 26 M M1 ∧ gI M1 708 x = nI W.length := by
  obtain ⟨⟨hB, hv, hL⟩, -, -, -, hW, -, -, -⟩ := id hX
  have hT := hB.lt
  have k0 : kd (nO M 10 3) (mT M) = 10 := by rw [kd_nO, up1_at]
  have t0 : mT (nO M 10 3) = mT M + 1 := by rw [mT_nO]
  have f0 : Fr x No No No No 1 M (nO M 10 3) := (Fr.rf hv hL).bO (by omega) (by omega)
  generalize nO M 10 3 = Ma at k0 t0 f0
  obtain ⟨Mc, e69, f1, cn, -⟩ := row_init f0 (Nat.le_refl _) t0 k0
  have hB1 : XB x Mc := hB.fr f1 (fun _ _ => id) (fun _ _ => id)
  have lW : isO Mc x (x + 4) (fun r b => cW Mc r b ∧ b ≠ mT M) (W.map some ++ List.replicate 0 none) := isO.mono hW.1 (f1.ls id) (fun q b hb hc => ⟨hc.fr f1 (fun _ _ => id) id, fun e => by have := lt_of_kd hv hc.1 (by omega); omega⟩)
  obtain ⟨M1, e19, lm, v1, lW1⟩ := isO.add (q := (none : Option TW)) (c := 10) lW f1.v (fun d hd => (hB1.de d hd).1) f1.li (by rw [List.length_append, List.length_map, List.length_replicate]; omega) cn.1 (by omega) (by omega) cn
  have f2 : Fr x No (fun l => l = x + 4) No No (0 + 24) Mc M1 := (Fr.rf (K := No) (L := fun l => l = x + 4) (AI := No) (AJ := No) f1.v f1.li).bL lm v1 (Or.inl rfl)
  have f3 : Fr x No (fun l => l = x + 4) No No 26 M M1 := ((f1.mo (L' := fun l => l = x + 4) (Nat.le_refl _) (fun _ => id) (fun _ q => q.elim) (fun _ => id) (fun _ => id)).tr f2).mo (by omega) (fun _ => id) (fun _ => id) (fun _ => id) (fun _ => id)
  have h708 : gI M1 708 x = nI W.length := by rw [f3.fI (by omega) (by omega) id]; exact hW.2
  refine ⟨Mc, M1, e69, hB1, e19, hX.frW f3 (fun _ q => q.elim) (fun _ q => q) (fun _ q => q.elim) ⟨?_, h708⟩, f3, h708⟩
  have := lW1 (cW M1) (fun q b hb hc => hc.fr f2 (fun _ _ => id) id)
  rw [List.append_assoc] at this
  exact this
/-- addRow -/
theorem c_addRow {p : Int32} {k : Nat} (hX : XI x E R F W O T S jW jO M) (hk : k ≤ 16) (hl : W.length ≤ 1000) : ∃ M' jW', ex 120 3 [pR (some x), pI p, pI (nI k)] M = some (some (pI (nI W.length)), M') ∧ XI x E R F (W ++ [(p, List.replicate k 0)]) O T S jW' jO M' ∧ Fr x KW (fun l => l = x + 4) No (JW x M) (if jW = 0 then 26 else 0) M M' ∧ jW' = jW - 1 := by
  obtain ⟨⟨hB, hv, hL⟩, -, -, -, hW, -, -, -⟩ := id hX
  have hl0 := hW.len0
  have hsz := hW.1.size
  rw [List.length_append, List.length_map, List.length_replicate] at hsz
  cases jW with
  | zero =>
    obtain ⟨Mc, M1, e69, hB1, e19, hX1, f1, h708⟩ := c_newRowO hX hl
    obtain ⟨a, M2, e16, ka, e70, hB2, hX2, f2, h708'⟩ := c_reuse_at (p := p) (k := k) hX1 hk
    have hB1' := hX1.1.1
    refine ⟨_, 0, ?_, hX2, ?_, rfl⟩
    · rw [tX11_addRow]
      refine rd_i rfl hB.k (rd_i rfl hB.k (rd_i hB.r4.1 hB.r4.2 (clI_i hsz (it_f (not_not_intro (by rw [hW.2, Nat.add_zero])) (rd_i rfl hB.k (bd_i (rd_i rfl (by rw [kd_nO, up1_at]) (clV_i e69 (rd_i hB.r4.1 hB1.r4.2 (clI_i e19 (rd_i rfl hB1'.k (rd_i rfl hB1'.k (rd_i hB1'.r4.1 hB1'.r4.2 ?_)))))))))))))
      rw [h708]
      refine clR_i e16 (ck_s rfl ka (rd_i rfl ka (clV_i e70 (rd_i rfl hB2.k (rd_i rfl hB2.k (bd_i ?_))))))
      rw [h708']
    · rw [if_pos rfl]
      exact (f1.mo (K' := KW) (AJ' := JW x M) (Nat.le_refl _) (fun _ q => q.elim) (fun _ => id) (fun _ => id) (fun _ q => q.elim)).trN f2 (fun _ => id) (fun _ _ q => q.elim) (fun _ _ => id) (fun d hd q => ⟨q.1, by rw [← f1.fk (show d - 1 < mT M by omega)]; exact q.2⟩)
  | succ jW =>
    obtain ⟨a, M2, e16, ka, e70, hB2, hX2, f2, h708'⟩ := c_reuse_at (p := p) (k := k) hX hk
    refine ⟨_, jW, ?_, hX2, ?_, rfl⟩
    · rw [tX11_addRow]
      refine rd_i rfl hB.k (rd_i rfl hB.k (rd_i hB.r4.1 hB.r4.2 (clI_i hsz (it_t (fun z => ?_) (rd_i rfl hB.k (rd_i rfl hB.k (rd_i hB.r4.1 hB.r4.2 ?_)))))))
      · rw [hW.2] at z
        have := nI_inj (by omega) (by omega) z
        omega
      · rw [hW.2]
        refine clR_i e16 (ck_s rfl ka (rd_i rfl ka (clV_i e70 (rd_i rfl hB2.k (rd_i rfl hB2.k (bd_i ?_))))))
        rw [h708']
    · rw [if_neg (by omega)]
      exact f2.mo (Nat.le_refl _) (fun _ => id) (fun _ q => q.elim) (fun _ => id) (fun _ => id)
theorem MW_new {m : Nat} {p : Int32} {k i : Nat} {g : Nat → Int64} (mW : MW m M W) (h440 : W.length < 440) (hk : k ≤ 16) (hi : k ≤ i) (e793 : gI M' 793 m = nI (W.length + 1)) (e22 : aI M' (m + 22) = up1 (aI M (m + 22)) W.length p) (e23 : aI M' (m + 23) = up1 (aI M (m + 23)) W.length (nI k)) (e24 : aJ M' (m + 24) = g) (hg0 : ∀ j, j < 16 * W.length → g j = aJ M (m + 24) j) (hg : ∀ j, j < i → g (16 * W.length + j) = 0) : MW m M' (W ++ [(p, List.replicate k 0)]) := by
  obtain ⟨y1, y2, y3⟩ := mW
  refine ⟨by rw [e793, List.length_append]; rfl, by rw [List.length_append]; simp only [List.length_cons, List.length_nil]; omega, fun r q hq => ?_⟩
  rw [e22, e23, e24]
  by_cases c : r < W.length
  · rw [List.getElem?_append_left c] at hq
    obtain ⟨z1, z2, z3, z4⟩ := y3 r q hq
    refine ⟨z1, by rw [up1_no (by omega)]; exact z2, by rw [up1_no (by omega)]; exact z3, fun j v hj => ?_⟩
    have hjl : j < q.2.length := (List.getElem?_eq_some_iff.mp hj).1
    rw [hg0 _ (by omega)]
    exact z4 j v hj
  · rw [List.getElem?_append_right (by omega)] at hq
    have : r - W.length < 1 := (List.getElem?_eq_some_iff.mp hq).1
    rw [show r - W.length = 0 by omega] at hq
    cases hq
    rw [show r = W.length by omega, up1_at, up1_at, List.length_replicate]
    refine ⟨hk, rfl, rfl, fun j v hj => ?_⟩
    have hj : (List.replicate k (0 : Int64))[j]? = some v := hj
    rw [List.getElem?_replicate] at hj
    by_cases z : j < k
    · rw [if_pos z] at hj
      cases hj
      exact hg j (by omega)
    · rw [if_neg z] at hj
      exact nomatch hj
theorem shp00 : ∀ k, k < 8 → shp (nI k) 0 = 0 := by decide +kernel
/-- the model's newRow -/
theorem m_newRow2 {m l k : Nat} (h : MI m E R F W O T S M) (hl : l < 8) (hk : k ≤ 16) (h440 : W.length < 440) : ∃ M', ex 189 4 [pR (some m), pI (nI l), pI (nI k)] M = some (some (pI (nI W.length)), M') ∧ CU m M M' ∧ MI m E R F (W ++ [(nI l, List.replicate k 0)]) O T S M' ∧ UW m M M' := by
  obtain ⟨mB, -, -, -, mW, -, -, -⟩ := id h
  have y1 := mW.1
  have key : ∀ (c i : Nat) (M1 : Mem), c + i = k → MB m M1 → CU m M M1 → UW m M M1 → gI M1 793 m = nI W.length → aI M1 (m + 22) = up1 (aI M (m + 22)) W.length (nI l) → aI M1 (m + 23) = up1 (aI M (m + 23)) W.length (nI k) → (∀ j, j < 16 * W.length → aJ M1 (m + 24) j = aJ M (m + 24) j) → (∀ j, j < i → aJ M1 (m + 24) (16 * W.length + j) = 0) → ∃ M', rn PP 189 22 [some (pR (some m)), some (pI (nI l)), some (pI (nI k)), some (pI (nI i))] [] M1 = some (some (pI (nI W.length)), M') ∧ CU m M M' ∧ MI m E R F (W ++ [(nI l, List.replicate k 0)]) O T S M' ∧ UW m M M' := by
    intro c
    induction c with
    | zero =>
      intro i M1 hi mB1 cu uw g793 g22 g23 g0 gz
      have e793 : gI (sI M1 793 m (nI W.length + 1)) 793 m = nI (W.length + 1) := by rw [gI_sI, up2_at, nI_1]
      have uw' : UW m M (sI M1 793 m (nI W.length + 1)) := ⟨uw.1, fun j hj => by rw [gI_sI, up2_ne hj]; exact uw.2.1 j hj, fun j h1 h2 => uw.2.2.1 j h1 h2, fun j hj => uw.2.2.2 j hj⟩
      refine ⟨sI M1 793 m (nI W.length + 1), ?_, cu.bI (by omega), ?_, uw'⟩
      · rw [tX12_newRow_22]
        refine it_t (nI_le (by omega) (by omega)) (rd_i rfl mB1.k (rd_i rfl mB1.k (bd_i ?_)))
        rw [g793]
        refine rd_i rfl mB1.k ?_
        rw [e793, nI_pred]
      · exact h.uw uw' (MW_new mW h440 hk (show k ≤ i by omega) e793 g22 g23 rfl g0 gz)
    | succ c ih =>
      intro i M1 hi mB1 cu uw g793 g22 g23 g0 gz
      obtain ⟨M', e1, e2, e3, e4⟩ := ih (i + 1) (wJ M1 (m + 24) (16 * W.length + i) 0) (by omega) mB1.wJ (cu.wJ (by omega)) ⟨uw.1, uw.2.1, uw.2.2.1, fun j hj => by rw [aJ_wJ, up1_no (by omega)]; exact uw.2.2.2 j hj⟩ (by rw [gI_wJ]; exact g793) (by rw [aI_wJ]; exact g22) (by rw [aI_wJ]; exact g23) (fun j hj => by rw [aJ_wJ, up1_at, up1_no (by omega)]; exact g0 j hj) (fun j hj => by
        rw [aJ_wJ, up1_at]
        by_cases q : j = i
        · rw [q, up1_at]
        · rw [up1_no (by omega)]; exact gz j (by omega))
      refine ⟨M', ?_, e2, e3, e4⟩
      rw [tX12_newRow_22]
      refine it_f (nI_ge (by omega) (by omega)) (rd_i rfl mB1.k (rd_i rfl mB1.k (clJ_i (m_shaped _ _ _) (ix_m (n := 16 * W.length + i) mB1.a24 ?_ (by omega) (by omega) (bd_i ?_)))))
      · rw [g793]; exact m16 _ _
      · rw [shp00 l hl, nI_1]
        exact e1
  obtain ⟨M', e1, e2, e3, e4⟩ := key k 0 (wI (wI M (m + 22) W.length (nI l)) (m + 23) W.length (nI k)) (by omega) mB.wI.wI ((CU.rf.wI (by omega)).wI (by omega)) ⟨⟨rfl, rfl, rfl⟩, fun j hj => rfl, fun j h1 h2 => by rw [aI_wI, up1_no (by omega), aI_wI, up1_no (by omega)], fun j hj => rfl⟩ mW.1 (by rw [aI_wI, up1_no (by omega), aI_wI, up1_at]) (by rw [aI_wI, up1_at, aI_wI, up1_no (by omega)]) (fun j hj => rfl) (fun j hj => by omega)
  refine ⟨M', ?_, e2, e3, e4⟩
  rw [tX12_newRow]
  exact rd_i rfl mB.k (rd_i rfl mB.k (ix_m (n := W.length) mB.a22 y1 (by omega) (by omega) (bd_i (rd_i rfl mB.k (rd_i rfl mB.k (ix_m (n := W.length) mB.wI.a23 y1 (by omega) (by omega) (bd_i e1)))))))
theorem m_newRow {m l k : Nat} (h : MI m E R F W O T S M) (hl : l < 8) (hk : k ≤ 16) (h440 : W.length < 440) : ∃ M', ex 189 4 [pR (some m), pI (nI l), pI (nI k)] M = some (some (pI (nI W.length)), M') ∧ CU m M M' ∧ MI m E R F (W ++ [(nI l, List.replicate k 0)]) O T S M' := by
  obtain ⟨M', e1, e2, e3, -⟩ := m_newRow2 h hl hk h440
  exact ⟨M', e1, e2, e3⟩
end OPS
