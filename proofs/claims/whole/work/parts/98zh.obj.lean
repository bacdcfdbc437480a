/-! OBJECTS: addObject -/
section OPS
variable {x : Nat} {E E' : List TE} {R R' : List TR} {F F' : List TF} {W W' : List TW} {O O' : List TO} {T T' : List TL} {S S' : TS} {jW jO jW' jO' n : Nat} {M M' M1 : Mem}
theorem cpJ_i {α : Type} {r : Option α} {p q : Option Nat} {a b : Nat} {f : Mem → Option α} (hp : p = some a) (hq : q = some b) (ka : kd M a = 21) (kb : kd M b = 21) (la : ln M a = 6) (lb : ln M b = 6) (k : f (uJ M b (va_cpy (aJ M a) (aJ M b) 0 0 6)) = r) : cpJ p 0 q 0 6 M f = r := by
  subst hp
  subst hq
  refine (if_pos ⟨ka, kb, by decide, by decide, by decide, ?_, ?_⟩).trans k
  · rw [la]; decide
  · rw [lb]; decide
/-- what addObject may change -/
abbrev KO : Nat → Prop := fun k => k = 448 ∨ k = 451 ∨ k = 711
abbrev JO (x : Nat) (M : Mem) : Nat → Prop := fun d => x + 58 < d ∧ kd M (d - 1) = 7
theorem c_setO {r d : Nat} {vs : List Int64} (hX : XI x E R F W O T S jW (jO + 1) M) (kd' : kd M d = 21) (ld : ln M d = 6) (hvs : vs.length ≤ 6) (hd : ∀ (i : Nat) (v : Int64), vs[i]? = some v → aJ M d i = v) : ∃ a M' tw, ex 16 2 [pR (some (x + 5)), pI (nI O.length)] M = some (some (pR (some a)), M) ∧ kd M a = 7 ∧ M' = uJ (sI (sI M 448 a (nI r)) 451 a (-1)) (a + 1) (va_cpy (aJ M d) (aJ M (a + 1)) 0 0 6) ∧ (gR M 449 a = some (a + 1) ∧ kd M (a + 1) = 21 ∧ ln M (a + 1) = 6) ∧ XB x M' ∧ XI x E R F W (O ++ [(r, vs, -1, tw)]) T S jW jO (sI M' 711 x (nI O.length + 1)) ∧ Fr x KO No No (JO x M) 0 M (sI M' 711 x (nI O.length + 1)) ∧ gI M' 711 x = nI O.length := by
  obtain ⟨⟨hB, hv, hL⟩, -, -, -, -, hO, -, -⟩ := id hX
  have hat : (O.map some ++ List.replicate (jO + 1) none)[O.length]? = some none := by
    rw [List.getElem?_append_right (by rw [List.length_map]; exact Nat.le_refl _), List.length_map, Nat.sub_self]
    rfl
  obtain ⟨a, g1, g2, g3, g4, -⟩ := hO.1.at hat
  obtain ⟨c1, c2, c3, c4, -⟩ := id g3
  have hlt := hB.lt
  have f0 : Fr x KO No No (fun d => d = a + 1) 0 M (sI M 448 a (nI r)) := (Fr.rf hv hL).bI (Or.inl ⟨by omega, Or.inl rfl⟩)
  have f1 : Fr x KO No No (fun d => d = a + 1) 0 M (sI (sI M 448 a (nI r)) 451 a (-1)) := f0.bI (Or.inl ⟨by omega, Or.inr (Or.inl rfl)⟩)
  have f2 : Fr x KO No No (fun d => d = a + 1) 0 M (uJ (sI (sI M 448 a (nI r)) 451 a (-1)) (a + 1) (va_cpy (aJ M d) (aJ M (a + 1)) 0 0 6)) := f1.bAJ (Or.inl rfl)
  have cn : cO (uJ (sI (sI M 448 a (nI r)) 451 a (-1)) (a + 1) (va_cpy (aJ M d) (aJ M (a + 1)) 0 0 6)) (some (r, vs, -1, gI M 450 a)) a := by
    refine ⟨c1, c2, c3, c4, fun w hw => ?_⟩
    cases hw
    refine ⟨?_, ?_, ?_, hvs, fun i v hi => ?_⟩
    · rw [gI_uJ, gI_sI, up2_ne (by omega), gI_sI, up2_at]
    · rw [gI_uJ, gI_sI, up2_at]
    · rw [gI_uJ, gI_sI, up2_ne (by omega), gI_sI, up2_ne (by omega)]
    · have hi : vs[i]? = some v := hi
      have hil : i < vs.length := (List.getElem?_eq_some_iff.mp hi).1
      rw [aJ_uJ, up1_at]
      unfold va_cpy
      rw [if_pos (by omega)]
      exact hd _ v (by rw [show 0 + (i - 0) = i by omega]; exact hi)
  have hoth : ∀ (q : Option TO) (b : Nat), b ≠ a → x + 57 < b → cO M q b → cO (uJ (sI (sI M 448 a (nI r)) 451 a (-1)) (a + 1) (va_cpy (aJ M d) (aJ M (a + 1)) 0 0 6)) q b := fun q b hne hb hr => by
    obtain ⟨r1, r2, r3, r4, r5⟩ := hr
    refine ⟨r1, r2, r3, r4, fun w hw => ?_⟩
    obtain ⟨s1, s2, s3, s4, s5⟩ := r5 w hw
    refine ⟨by rw [gI_uJ, gI_sI, up2_no hne, gI_sI, up2_no hne]; exact s1, by rw [gI_uJ, gI_sI, up2_no hne, gI_sI, up2_no hne]; exact s2, by rw [gI_uJ, gI_sI, up2_no hne, gI_sI, up2_no hne]; exact s3, s4, fun i v hv => ?_⟩
    rw [aJ_uJ, up1_no (by omega)]
    exact s5 i v hv
  have hO1 := g4 _ (cO _) (some (r, vs, -1, gI M 450 a)) (f2.ls id) cn hoth
  have h711 : gI (uJ (sI (sI M 448 a (nI r)) 451 a (-1)) (a + 1) (va_cpy (aJ M d) (aJ M (a + 1)) 0 0 6)) 711 x = nI O.length := by
    rw [gI_uJ, gI_sI, up2_ne (by omega), gI_sI, up2_ne (by omega)]; exact hO.2
  refine ⟨a, _, gI M 450 a, g1, c1, rfl, ⟨c2, c3, c4⟩, hB.fr f2 (by decide) (fun _ _ => id), ?_, ?_, h711⟩
  · clear cn hoth
    generalize uJ (sI (sI M 448 a (nI r)) 451 a (-1)) (a + 1) (va_cpy (aJ M d) (aJ M (a + 1)) 0 0 6) = Mz at f2 hO1 h711
    have f3 : Fr x KO No No (JO x M) 0 M (sI Mz 711 x (nI O.length + 1)) := (f2.mo (AJ' := JO x M) (n' := 0) (Nat.le_refl _) (fun _ => id) (fun _ => id) (fun _ => id) (fun d q => by subst q; exact ⟨by omega, by rw [Nat.add_sub_cancel]; exact c1⟩)).bI (Or.inl ⟨by omega, Or.inr (Or.inr rfl)⟩)
    have f4 : Fr x (fun k => k = 711) No No No 0 Mz (sI Mz 711 x (nI O.length + 1)) := (Fr.rf f2.v f2.li).bI (Or.inl ⟨by omega, rfl⟩)
    refine hX.frO f3 (fun k q => by omega) (fun _ q => q.elim) (fun d q => q) ⟨?_, ?_⟩
    · have e1 : (O.map some ++ List.replicate (jO + 1) none).set O.length (some (r, vs, -1, gI M 450 a)) = (O ++ [(r, vs, -1, gI M 450 a)]).map some ++ List.replicate jO none := by
        rw [List.set_append_right _ _ (by rw [List.length_map]; exact Nat.le_refl _), List.length_map, Nat.sub_self, List.replicate_succ, List.set_cons_zero, List.map_append, List.append_assoc]
        rfl
      rw [e1] at hO1
      exact isO.mono hO1 (f4.ls id) (fun q b _ h => h.fr f4 (by decide) id)
    · rw [gI_sI, up2_at, List.length_append, nI_1]
      rfl
  · exact (f2.mo (AJ' := JO x M) (n' := 0) (Nat.le_refl _) (fun _ => id) (fun _ => id) (fun _ => id) (fun d q => by subst q; exact ⟨by omega, by rw [Nat.add_sub_cancel]; exact c1⟩)).bI (Or.inl ⟨by omega, Or.inr (Or.inr rfl)⟩)
theorem made_init {Ma : Mem} {a : Nat} {K L AI AJ : Nat → Prop} (f : Fr x K L AI AJ n M Ma) (haM : mT M ≤ a) (ha : mT Ma = a + 1) (hk : kd Ma a = 7) : ∃ Mc, ex 62 1 [pR (some a)] Ma = some (none, Mc) ∧ Fr x K L AI AJ (n + 1) M Mc ∧ cO Mc none a := by
  have h6 : (6 : Int32).toNatClampNeg = 6 := by decide
  have k0 : kd (nA Ma 21 6) a = 7 := by rw [kd_nA, up1_no (by omega)]; exact hk
  refine ⟨sF (nA Ma 21 6) 449 a (some (mT Ma)), ?_, (f.bA (by omega) (by omega) (by omega)).bF (Or.inr ⟨haM, Or.inl (by omega)⟩), ⟨?_, ?_, ?_, ?_, fun w hw => nomatch hw⟩⟩
  · rw [tX7_init, h6]
    exact nn_i rfl (gd_i (by decide) (bd_i (rd_i rfl k0 (bd_i rfl))))
  · rw [kd_sF]; exact k0
  · rw [gR_sF, up2_at, ha]
  · rw [kd_sF, kd_nA, ← ha, up1_at]
  · rw [ln_sF, ln_nA, ← ha, up1_at]
theorem c_newObjO (hX : XI x E R F W O T S jW 0 M) (hl : O.length ≤ 1000) : ∃ Mc M1, ex 62 1 [pR (some (mT M))] (nO M 7 5) = some (none, Mc) ∧ XB x Mc ∧ ex 19 2 [pR (some (x + 5)), pR (some (mT M))] Mc = some (some (pI 1), M1) ∧ XI x E R F W O T S jW 1 M1 ∧ Fr x No (fun l => l = x + 5) No No 26 M M1 ∧ gI M1 711 x = nI O.length := by
  obtain ⟨⟨hB, hv, hL⟩, -, -, -, -, hO, -, -⟩ := id hX
  have hT := hB.lt
  have k0 : kd (nO M 7 5) (mT M) = 7 := by rw [kd_nO, up1_at]
  have t0 : mT (nO M 7 5) = mT M + 1 := by rw [mT_nO]
  have f0 : Fr x No No No No 1 M (nO M 7 5) := (Fr.rf hv hL).bO (by omega) (by omega)
  generalize nO M 7 5 = Ma at k0 t0 f0
  obtain ⟨Mc, e62, f1, cn⟩ := made_init f0 (Nat.le_refl _) t0 k0
  have hB1 : XB x Mc := hB.fr f1 (fun _ _ => id) (fun _ _ => id)
  have lW : isO Mc x (x + 5) (fun r b => cO Mc r b ∧ b ≠ mT M) (O.map some ++ List.replicate 0 none) := isO.mono hO.1 (f1.ls id) (fun q b hb hc => ⟨hc.fr f1 (fun _ _ => id) id, fun e => by have := lt_of_kd hv hc.1 (by omega); omega⟩)
  obtain ⟨M1, e19, lm, v1, lW1⟩ := isO.add (q := (none : Option TO)) (c := 7) lW f1.v (fun d hd => (hB1.de d hd).1) f1.li (by rw [List.length_append, List.length_map, List.length_replicate]; omega) cn.1 (by omega) (by omega) cn
  have f2 : Fr x No (fun l => l = x + 5) No No (0 + 24) Mc M1 := (Fr.rf (K := No) (L := fun l => l = x + 5) (AI := No) (AJ := No) f1.v f1.li).bL lm v1 (Or.inl rfl)
  have f3 : Fr x No (fun l => l = x + 5) No No 26 M M1 := ((f1.mo (L' := fun l => l = x + 5) (Nat.le_refl _) (fun _ => id) (fun _ q => q.elim) (fun _ => id) (fun _ => id)).tr f2).mo (by omega) (fun _ => id) (fun _ => id) (fun _ => id) (fun _ => id)
  have h711 : gI M1 711 x = nI O.length := by rw [f3.fI (by omega) (by omega) id]; exact hO.2
  refine ⟨Mc, M1, e62, hB1, e19, hX.frO f3 (fun _ q => q.elim) (fun _ q => q) (fun _ q => q.elim) ⟨?_, h711⟩, f3, h711⟩
  have := lW1 (cO M1) (fun q b hb hc => hc.fr f2 (fun _ _ => id) id)
  rw [List.append_assoc] at this
  exact this
/-- addObject -/
theorem c_addObject {r d : Nat} {vs : List Int64} (hX : XI x E R F W O T S jW jO M) (kd' : kd M d = 21) (ld : ln M d = 6) (hvs : vs.length ≤ 6) (hd : ∀ (i : Nat) (v : Int64), vs[i]? = some v → aJ M d i = v) (hl : O.length ≤ 1000) : ∃ M' tw, ex 132 4 [pR (some x), pI (nI r), pR (some d)] M = some (some (pI (nI O.length)), M') ∧ XI x E R F W (O ++ [(r, vs, -1, tw)]) T S jW (jO - 1) M' ∧ Fr x KO (fun l => l = x + 5) No (JO x M) (if jO = 0 then 26 else 0) M M' := by
  obtain ⟨⟨hB, hv, hL⟩, -, -, -, -, hO, -, -⟩ := id hX
  have hl0 := hO.len0
  have hsz := hO.1.size
  rw [List.length_append, List.length_map, List.length_replicate] at hsz
  have hdT := lt_of_kd hv kd' (by omega)
  cases jO with
  | zero =>
    obtain ⟨Mc, M1, e62, hB1, e19, hX1, f1, h711⟩ := c_newObjO hX hl
    obtain ⟨a, M2, tw, e16, ka, eM, ⟨g1, g2, g3⟩, hB2, hX2, f2, h711'⟩ := c_setO (r := r) (d := d) (vs := vs) hX1 (by rw [f1.fk hdT]; exact kd') (by rw [f1.fl hdT]; exact ld) hvs (fun i v hi => by rw [f1.eJ hdT id]; exact hd i v hi)
    have hB1' := hX1.1.1
    refine ⟨_, tw, ?_, hX2, ?_⟩
    · rw [tX11_addObject]
      refine rd_i rfl hB.k (rd_i rfl hB.k (rd_i hB.r5.1 hB.r5.2 (clI_i hsz (it_f (not_not_intro (by rw [hO.2, Nat.add_zero])) (rd_i rfl hB.k (bd_i (rd_i rfl (by rw [kd_nO, up1_at]) (clV_i e62 (rd_i hB.r5.1 hB1.r5.2 (clI_i e19 (rd_i rfl hB1'.k (rd_i rfl hB1'.k (rd_i hB1'.r5.1 hB1'.r5.2 ?_)))))))))))))
      rw [h711]
      refine clR_i e16 (ck_s rfl ka (rd_i rfl ka (bd_i (rd_i rfl (by rw [kd_sI]; exact ka) (bd_i (rd_i rfl (by rw [kd_sI, kd_sI]; exact ka) (cpJ_i (a := d) (b := a + 1) rfl (by rw [gR_sI, gR_sI]; exact g1) (by rw [kd_sI, kd_sI, f1.fk hdT]; exact kd') (by rw [kd_sI, kd_sI]; exact g2) (by rw [ln_sI, ln_sI, f1.fl hdT]; exact ld) (by rw [ln_sI, ln_sI]; exact g3) ?_)))))))
      rw [aJ_sI, aJ_sI, ← eM]
      refine rd_i rfl hB2.k (rd_i rfl hB2.k (bd_i ?_))
      rw [h711']
    · rw [if_pos rfl]
      exact (f1.mo (K' := KO) (AJ' := JO x M) (Nat.le_refl _) (fun _ q => q.elim) (fun _ => id) (fun _ => id) (fun _ q => q.elim)).trN f2 (fun _ => id) (fun _ _ q => q.elim) (fun _ _ => id) (fun d hd q => ⟨q.1, by rw [← f1.fk (show d - 1 < mT M by omega)]; exact q.2⟩)
  | succ jO =>
    obtain ⟨a, M2, tw, e16, ka, eM, ⟨g1, g2, g3⟩, hB2, hX2, f2, h711'⟩ := c_setO (r := r) (d := d) (vs := vs) hX kd' ld hvs hd
    refine ⟨_, tw, ?_, by rw [Nat.add_sub_cancel]; exact hX2, ?_⟩
    · rw [tX11_addObject]
      refine rd_i rfl hB.k (rd_i rfl hB.k (rd_i hB.r5.1 hB.r5.2 (clI_i hsz (it_t (fun z => ?_) (rd_i rfl hB.k (rd_i rfl hB.k (rd_i hB.r5.1 hB.r5.2 ?_)))))))
      · rw [hO.2] at z
        have := nI_inj (by omega) (by omega) z
        omega
      · rw [hO.2]
        refine clR_i e16 (ck_s rfl ka (rd_i rfl ka (bd_i (rd_i rfl (by rw [kd_sI]; exact ka) (bd_i (rd_i rfl (by rw [kd_sI, kd_sI]; exact ka) (cpJ_i (a := d) (b := a + 1) rfl (by rw [gR_sI, gR_sI]; exact g1) (by rw [kd_sI, kd_sI]; exact kd') (by rw [kd_sI, kd_sI]; exact g2) (by rw [ln_sI, ln_sI]; exact ld) (by rw [ln_sI, ln_sI]; exact g3) ?_)))))))
        rw [aJ_sI, aJ_sI, ← eM]
        refine rd_i rfl hB2.k (rd_i rfl hB2.k (bd_i ?_))
        rw [h711']
    · rw [if_neg (by omega)]
      exact f2.mo (Nat.le_refl _) (fun _ => id) (fun _ q => q.elim) (fun _ => id) (fun _ => id)
end OPS
