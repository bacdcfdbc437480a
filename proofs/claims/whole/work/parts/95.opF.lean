/-! CALLS on families: family -/
section OPF
variable {x : Nat} {E E' : List TE} {R R' : List TR} {F F' : List TF} {W W' : List TW} {O O' : List TO} {T T' : List TL} {S S' : TS} {jW jO jW' jO' n : Nat} {M M1 : Mem}
/-- the model's writes on families -/
def UF (m : Nat) (M M' : Mem) : Prop := (kd M' = kd M ∧ ln M' = ln M ∧ gR M' = gR M) ∧ (∀ k, k ≠ 784 → k ≠ 788 → gI M' k m = gI M k m) ∧ (∀ i, i < 15 ∨ 18 < i → aI M' (m + i) = aI M (m + i)) ∧ (∀ i, aJ M' (m + i) = aJ M (m + i))
theorem UF.rf {m : Nat} : UF m M M := ⟨⟨rfl, rfl, rfl⟩, fun _ _ _ => rfl, fun _ _ => rfl, fun _ => rfl⟩
theorem UF.tr {m : Nat} {M2 : Mem} (h : UF m M M1) (g : UF m M1 M2) : UF m M M2 := by
  obtain ⟨⟨a1, a2, a3⟩, b, c, d⟩ := h
  obtain ⟨⟨a1', a2', a3'⟩, b', c', d'⟩ := g
  exact ⟨⟨a1'.trans a1, a2'.trans a2, a3'.trans a3⟩, fun k hk hk2 => (b' k hk hk2).trans (b k hk hk2), fun i x => (c' i x).trans (c i x), fun r => (d' r).trans (d r)⟩
theorem UF.wI {m j p : Nat} {v : Int32} (h : UF m M M1) (hj : 15 ≤ j ∧ j ≤ 18) : UF m M (wI M1 (m + j) p v) := h.tr ⟨⟨rfl, rfl, rfl⟩, fun _ _ _ => rfl, fun i h5 => by rw [aI_wI, up1_no (by omega)], fun r => rfl⟩
theorem UF.sI {m k : Nat} {v : Int32} (h : UF m M M1) (hk : k = 784 ∨ k = 788) : UF m M (sI M1 k m v) := h.tr ⟨⟨rfl, rfl, rfl⟩, fun j h1 h2 => g_ne (by omega), fun i _ => rfl, fun r => rfl⟩
theorem MI.uf {m : Nat} {M' : Mem} (h : MI m E R F W O T S M) (u : UF m M M') (hF : MF m M' F') : MI m E R F' W O T S M' := by
  obtain ⟨h1, h2, h3, h4, h5, h6, h7, h8⟩ := h
  obtain ⟨⟨u1, u2, u3⟩, u4, a, b⟩ := u
  exact ⟨⟨by rw [u1]; exact h1.1, fun q hq => by rw [u1, u2, u3]; exact h1.2 q hq⟩, h2.cg (u4 _ (by omega) (by omega)) (a _ (by omega)) (a _ (by omega)) (a _ (by omega)) (a _ (by omega)) (a _ (by omega)) (b _), h3.cg (u4 _ (by omega) (by omega)) (a _ (by omega)) (a _ (by omega)) (a _ (by omega)) (a _ (by omega)) (a _ (by omega)) (a _ (by omega)) (a _ (by omega)) (b _) (b _) (b _) (b _), hF, h5.cg (u4 _ (by omega) (by omega)) (a _ (by omega)) (a _ (by omega)) (b _), h6.cg (u4 _ (by omega) (by omega)) (a _ (by omega)) (a _ (by omega)) (b _), h7.cg (u4 _ (by omega) (by omega)) (a _ (by omega)) (a _ (by omega)) (a _ (by omega)) (a _ (by omega)) (a _ (by omega)) (a _ (by omega)) (a _ (by omega)) (a _ (by omega)) (b _) (b _) (b _), h8.cg (u4 _ (by omega) (by omega)) (u4 _ (by omega) (by omega)) (u4 _ (by omega) (by omega)) (u4 _ (by omega) (by omega)) (u4 _ (by omega) (by omega)) (u4 _ (by omega) (by omega)) (u4 _ (by omega) (by omega)) (u4 _ (by omega) (by omega)) (u4 _ (by omega) (by omega)) (u4 _ (by omega) (by omega)) (a _ (by omega)) (b _)⟩
theorem XI.frF {K L AI : Nat → Prop} (h : XI x E R F W O T S jW jO M) (f : Fr x K L AI No n M M1) (hK : ∀ k, K k → 256 ≤ k ∧ k ≤ 259) (hL : ∀ l, L l → l = x + 3) (hA : ∀ a, AI a → x + 57 < a) (hF' : XF x M1 F') : XI x E R F' W O T S jW jO M1 := by
  obtain ⟨⟨hB, hv, hLI⟩, h1, h2, h3, h4, h5, h6, h7⟩ := h
  have nK : ∀ (ks : List Nat), ks.all (fun k => decide (¬ (256 ≤ k ∧ k ≤ 259))) = true → ∀ k ∈ ks, ¬ K k := fun ks hks k hk q => by
    have a1 := of_decide_eq_true (List.all_eq_true.mp hks k hk)
    exact a1 (hK k q)
  have nL : ∀ l, l ≠ x + 3 → ¬ L l := fun l h2 q => h2 (hL l q)
  have nX : ∀ q ∈ xtab, ¬ K q.1 := fun q hq z => by
    have a1 : ∀ q ∈ xtab, 704 ≤ q.1 := by decide
    have a2 := hK _ z
    have := a1 q hq
    omega
  have nA : ∀ a, a ≤ x + 57 → ¬ AI a := fun a ha q => by have := hA a q; omega
  exact ⟨⟨hB.fr f nX (fun a ha => nA a (by omega)), f.v, f.li⟩, h1.fr f (nK _ (by decide)) (nL _ (by omega)) (fun a ha hk => nL _ (by omega)), h2.fr f (nK _ (by decide)) (nL _ (by omega)) (fun a ha _ _ => ⟨nL _ (by omega), nL _ (by omega)⟩), hF', h4.fr hB f (nK _ (by decide)) (nL _ (by omega)) (fun _ _ _ => id), h5.fr hB f (nK _ (by decide)) (nL _ (by omega)) (fun _ _ _ => id), h6.fr f (nK _ (by decide)) (nL _ (by omega)) ⟨fun _ _ _ => id, fun _ _ => id⟩, h7.fr hB f (nK _ (by decide)) ⟨nA _ (by omega), nA _ (by omega)⟩ id⟩
-- leaves
theorem lvT_len (F : List TF) : ∀ n, (lvT F n).length = n
  | 0 => rfl
  | n + 1 => by rw [lvT, List.length_append, lvT_len F n]; rfl
theorem lvT_cg {F F' : List TF} : ∀ n, (∀ i, i < n → (F'.getD i ([], [])).1 = (F.getD i ([], [])).1) → lvT F' n = lvT F n
  | 0, _ => rfl
  | n + 1, h => by rw [lvT, lvT, lvT_cg n (fun i hi => h i (by omega)), h n (by omega)]
theorem lvT_at (F : List TF) (f : Nat) : ∀ n, f < n → (lvT F n).getD f [] = ((F.getD f ([], [])).1).foldl (stepL2 (lvT F f)) [] := by
  intro n
  induction n with
  | zero => intro h; omega
  | succ n ih =>
    intro h
    rw [lvT, List.getD_eq_getElem?_getD]
    by_cases e : f < n
    · rw [List.getElem?_append_left (by rw [lvT_len]; omega), ← List.getD_eq_getElem?_getD]
      exact ih e
    · have e2 : f = n := by omega
      subst e2
      rw [List.getElem?_append_right (by rw [lvT_len]; omega), lvT_len, Nat.sub_self]
      rfl
theorem wfF_app {nR : Nat} (h : wfF nR F) : wfF nR (F ++ [([], [])]) := by
  intro f q hq
  have hl : f < (F ++ [(([], []) : TF)]).length := (List.getElem?_eq_some_iff.mp hq).1
  have hcg : ∀ i, i < F.length → ((F ++ [(([], []) : TF)]).getD i ([], [])).1 = (F.getD i ([], [])).1 := fun i hi => by
    rw [List.getD_eq_getElem?_getD, List.getD_eq_getElem?_getD, List.getElem?_append_left hi]
  rw [lvT_at _ _ _ hl]
  by_cases e1 : f < F.length
  · rw [List.getElem?_append_left e1] at hq
    obtain ⟨w1, w2⟩ := h f q hq
    refine ⟨w1, ?_⟩
    rw [w2, lvT_at _ _ _ e1, hcg f e1, lvT_cg f (fun i hi => hcg i (by omega))]
  · rw [List.getElem?_append_right (by omega)] at hq
    have : f - F.length < 1 := (List.getElem?_eq_some_iff.mp hq).1
    have e3 : f = F.length := by omega
    subst e3
    rw [Nat.sub_self] at hq
    cases hq
    refine ⟨fun k c hc => by simp at hc, ?_⟩
    rw [List.getD_eq_getElem?_getD, List.getElem?_append_right (Nat.le_refl _), Nat.sub_self]
    rfl
theorem srtOK_nF {nE nF nF' : Nat} {s o : Int32} (h : srtOK nE nF s o) (hn : nF ≤ nF') : srtOK nE nF' s o := by
  obtain ⟨h1, h2, h3, h4, h5⟩ := h
  refine ⟨h1, h2, h3, h4, fun e => ?_⟩
  obtain ⟨f, z1, z2⟩ := h5 e
  exact ⟨f, by omega, z2⟩
theorem awF (aw : AW E R F W [] T S jW jO) (h0 : wfF R.length F') (h1 : F.length ≤ F'.length) : AW E R F' W [] T S jW jO := by
  obtain ⟨a1, a2, a3, a4, a5, a6⟩ := aw
  exact ⟨fun r q hq => ⟨fun p t ht => ⟨srtOK_nF ((a1 r q hq).1 p t ht).1 h1, ((a1 r q hq).1 p t ht).2⟩, (a1 r q hq).2⟩, h0, a3, wfO.nil, a5, a6⟩
-- family
theorem fam_init {Ma : Mem} {a : Nat} {K L AI AJ : Nat → Prop} (f : Fr x K L AI AJ n M Ma) (haM : mT M ≤ a) (ha : mT Ma = a + 1) (hk : kd Ma a = 4) (z1 : gI Ma 257 a = 0) (z2 : gI Ma 259 a = 0) : ∃ Mc, ex 49 1 [pR (some a)] Ma = some (none, Mc) ∧ Fr x K L AI AJ (n + 1 + 1) M Mc ∧ cF Mc ([], []) a := by
  have h4 : (4 : Int32).toNatClampNeg = 4 := by decide
  have h6 : (6 : Int32).toNatClampNeg = 6 := by decide
  have fb : Fr x K L AI AJ (n + 1) M (sF (nA Ma 20 4) 256 a (some (mT Ma))) := (f.bA (by omega) (by omega) (by omega)).bF (Or.inr ⟨haM, Or.inl (by omega)⟩)
  have tb : mT (sF (nA Ma 20 4) 256 a (some (mT Ma))) = a + 2 := by rw [mT_sF, mT_nA, ha]
  have k0 : kd (nA Ma 20 4) a = 4 := by rw [kd_nA, up1_no (by omega)]; exact hk
  have kb : kd (sF (nA Ma 20 4) 256 a (some (mT Ma))) a = 4 := by rw [kd_sF]; exact k0
  have kb1 : kd (sF (nA Ma 20 4) 256 a (some (mT Ma))) (a + 1) = 20 := by rw [kd_sF, kd_nA, ← ha, up1_at]
  have lb1 : ln (sF (nA Ma 20 4) 256 a (some (mT Ma))) (a + 1) = 4 := by rw [ln_sF, ln_nA, ← ha, up1_at]
  have rb : gR (sF (nA Ma 20 4) 256 a (some (mT Ma))) 256 a = some (a + 1) := by rw [gR_sF, up2_at, ha]
  have zb1 : gI (sF (nA Ma 20 4) 256 a (some (mT Ma))) 257 a = 0 := by rw [gI_sF, gI_nA]; exact z1
  have zb2 : gI (sF (nA Ma 20 4) 256 a (some (mT Ma))) 259 a = 0 := by rw [gI_sF, gI_nA]; exact z2
  have s1 : ex 49 1 [pR (some a)] Ma = bd (nA (sF (nA Ma 20 4) 256 a (some (mT Ma))) 20 6) fun M5 => rd (some a) 4 M5 fun a6 => bd (sF M5 258 a6 (some (mT (sF (nA Ma 20 4) 256 a (some (mT Ma)))))) fun M7 => some (none, M7) := by
    rw [tX4_init, h4, h6]
    exact nn_i rfl (gd_i (by decide) (bd_i (rd_i rfl k0 (bd_i (gd_i (by decide) rfl)))))
  generalize sF (nA Ma 20 4) 256 a (some (mT Ma)) = Mb at fb tb kb kb1 lb1 rb zb1 zb2 s1
  have k2 : kd (nA Mb 20 6) a = 4 := by rw [kd_nA, up1_no (by omega)]; exact kb
  refine ⟨sF (nA Mb 20 6) 258 a (some (mT Mb)), ?_, (fb.bA (by omega) (by omega) (by omega)).bF (Or.inr ⟨haM, Or.inl (by omega)⟩), ?_, ⟨?_, ?_, ?_, ?_, by simp, fun i c hc => by simp at hc⟩, ⟨?_, ?_, ?_, ?_, by simp, fun i c hc => by simp at hc⟩⟩
  · rw [s1]
    exact bd_i (rd_i rfl k2 (bd_i rfl))
  · rw [kd_sF]; exact k2
  · rw [gR_sF, up2_ne (by decide), gR_nA]; exact rb
  · rw [gI_sF, gI_nA]; exact zb1
  · rw [kd_sF, kd_nA, up1_no (by omega)]; exact kb1
  · rw [ln_sF, ln_nA, up1_no (by omega)]; exact lb1
  · rw [gR_sF, up2_at, tb]
  · rw [gI_sF, gI_nA]; exact zb2
  · rw [kd_sF, kd_nA, ← tb, up1_at]
  · rw [ln_sF, ln_nA, ← tb, up1_at]
theorem c_newFam (hB : XB x M) (hv : PIv x M) (hL : LI M) (hF : XF x M F) (hFl : F.length ≤ 1000) : ∃ Mc M1, ex 49 1 [pR (some (mT M))] (nO M 4 4) = some (none, Mc) ∧ XB x Mc ∧ ex 19 2 [pR (some (x + 3)), pR (some (mT M))] Mc = some (some (pI 1), M1) ∧ XF x M1 (F ++ [([], [])]) ∧ Fr x No (fun l => l = x + 3) No No 27 M M1 := by
  have hT := hB.lt
  have f1 : Fr x No No No No (0 + 1) M (nO M 4 4) := (Fr.rf hv hL).bO (by omega) (by omega)
  have ka : kd (nO M 4 4) (mT M) = 4 := by rw [kd_nO, up1_at]
  have za : gI (nO M 4 4) 257 (mT M) = 0 := by rw [gI_nO, clr_at]
  have za2 : gI (nO M 4 4) 259 (mT M) = 0 := by rw [gI_nO, clr_at]
  have ta : mT (nO M 4 4) = mT M + 1 := rfl
  generalize nO M 4 4 = Ma at f1 ka za za2 ta
  obtain ⟨Mc, e64, f3, cn⟩ := fam_init f1 (Nat.le_refl _) ta ka za za2
  have hB3 : XB x Mc := hB.fr f3 (fun _ _ => id) (fun _ _ => id)
  have lR : isO Mc x (x + 3) (fun r b => cF Mc r b ∧ b ≠ mT M) F := isO.mono hF (f3.ls id) (fun q b hb hc => ⟨hc.fr f3 (fun _ _ => id) ⟨id, id⟩, fun e => by have := lt_of_kd hv hc.1 (by omega); omega⟩)
  obtain ⟨M1, e19, lm, v1, lR1⟩ := isO.add (q := (([], []) : TF)) (c := 4) lR f3.v (fun d hd => (hB3.de d hd).1) f3.li (by omega) cn.1 (by omega) (by omega) cn
  have f4 : Fr x No (fun l => l = x + 3) No No (0 + 24) Mc M1 := (Fr.rf (K := No) (L := fun l => l = x + 3) (AI := No) (AJ := No) f3.v f3.li).bL lm v1 (Or.inl rfl)
  have hR1 : XF x M1 (F ++ [([], [])]) := lR1 _ (fun q b hb hc => hc.fr f4 (fun _ _ => id) ⟨id, id⟩)
  have f5 := (f3.mo (L' := fun l => l = x + 3) (Nat.le_refl _) (fun _ => id) (fun _ q => q.elim) (fun _ => id) (fun _ => id)).tr f4
  exact ⟨Mc, M1, e64, hB3, e19, hR1, f5.mo (by omega) (fun _ => id) (fun _ => id) (fun _ => id) (fun _ => id)⟩
theorem MF_newFam {m : Nat} (mF : MF m M F) (h3 : F.length < 3) : MF m (sI M 784 m (nI F.length + 1)) (F ++ [([], [])]) := by
  obtain ⟨y1, y2, y3, y4⟩ := mF
  refine ⟨?_, by rw [List.length_append]; simp only [List.length_cons, List.length_nil]; omega, fun e q hq => ?_, fun e he1 he2 => ?_⟩
  · rw [gI_sI, up2_at, List.length_append, nI_1]
    rfl
  · rw [aI_sI]
    by_cases e1 : e < F.length
    · rw [List.getElem?_append_left e1] at hq
      exact y3 e q hq
    · rw [List.getElem?_append_right (by omega)] at hq
      have : e - F.length < 1 := (List.getElem?_eq_some_iff.mp hq).1
      rw [show e - F.length = 0 by omega] at hq
      cases hq
      exact ⟨by simp, y4 e (by omega) (by omega), fun c r hr => by simp at hr⟩
  · rw [List.length_append] at he1
    simp only [List.length_cons, List.length_nil] at he1
    rw [aI_sI]
    exact y4 e (by omega) he2
theorem op_family (h : Inv x E R F W O T S jW jO M) : Op x W O T jW jO M (fun M => ex 78 1 [pR (some x)] M) (fun M => ex 170 1 [pR (some (x + 12))] M) := by
  obtain ⟨hX, hM, aw⟩ := id h
  obtain ⟨⟨hB, hv, hL⟩, -, -, hF, -, hO, -, -⟩ := id hX
  obtain ⟨mB, -, -, mF, -, mO, -, -⟩ := id hM
  by_cases ho : O = []
  · have c0 := (ob0 hO).mpr ho
    have d0 := (mb0 mO).mpr ho
    have hFl := mF.2.1
    by_cases hf : F.length = 3
    · refine Op.keep h (v := pI (-3)) ?_ ?_
      · show ex 78 1 [pR (some x)] M = _
        rw [tX11_family]
        exact rd_i rfl hB.k (it_t c0 (rd_i rfl hB.k (rd_i hB.r3.1 hB.r3.2 (clI_i hF.size (it_f (by rw [hf]; decide) rfl)))))
      · show ex 170 1 [pR (some (x + 12))] M = _
        rw [tX12_family]
        exact rd_i rfl mB.k (it_t d0 (rd_i rfl mB.k (it_f (not_not_intro (by rw [mF.1, hf]; rfl)) rfl)))
    · obtain ⟨Mc, M1, e64, hB3, e19, hR1, f5⟩ := c_newFam hB hv hL hF (by omega)
      have hX1 := hX.frF f5 (fun _ q => q.elim) (fun l q => q) (fun _ q => q.elim) hR1
      have hB4 := hX1.1.1
      refine Op.chg (F' := F ++ [([], [])]) (v := pI (nI F.length)) h (M1 := M1) ?_ (f5.mo (n' := 27) (Nat.le_refl _) (fun _ q => q.elim) (fun l q => by omega) (fun _ q => q.elim) (fun _ q => q.elim)) hX1 (fun hM1 => ?_) ?_ (by omega)
      · show ex 78 1 [pR (some x)] M = _
        rw [tX11_family]
        refine rd_i rfl hB.k (it_t c0 (rd_i rfl hB.k (rd_i hB.r3.1 hB.r3.2 (clI_i hF.size (it_t (nI_lt (b := 3) (by omega) (by decide)) (rd_i rfl hB.k (bd_i (rd_i rfl (if_pos rfl) (clV_i e64 (rd_i hB.r3.1 hB3.r3.2 (clI_i e19 (rd_i rfl hB4.k (rd_i hB4.r3.1 hB4.r3.2 (clI_i hR1.size ?_))))))))))))))
        rw [List.length_append, show ([([], [])] : List TF).length = 1 from rfl, nI_pred]
      · obtain ⟨mB1, mE1, mR1, mF1, mW1, mO1, mL1, mS1⟩ := id hM1
        have d1 := (mb0 mO1).mpr ho
        refine ⟨sI M1 784 (x + 12) (nI F.length + 1), ?_, CU.rf.bI (by omega), hM1.uf (UF.rf.sI (Or.inl rfl)) (MF_newFam mF1 (by omega))⟩
        show ex 170 1 [pR (some (x + 12))] M1 = _
        rw [tX12_family]
        refine rd_i rfl mB1.k (it_t d1 (rd_i rfl mB1.k (it_t (fun q => ?_) (rd_i rfl mB1.k (rd_i rfl mB1.k (bd_i (rd_i rfl mB1.k ?_)))))))
        · rw [mF1.1] at q
          exact hf (nI_inj (b := 3) (by omega) (by omega) q)
        · rw [mF1.1]
          have e9 : gI (sI M1 784 (x + 12) (nI F.length + 1)) 784 (x + 12) = nI F.length + 1 := up2_at
          rw [e9, nI_1, nI_pred]
      · subst ho
        exact awF aw (wfF_app aw.2.1) (by rw [List.length_append]; omega)
  · refine Op.keep h (v := pI (-2)) ?_ ?_
    · show ex 78 1 [pR (some x)] M = _
      rw [tX11_family]
      exact rd_i rfl hB.k (it_f (fun q => ho ((ob0 hO).mp q)) rfl)
    · show ex 170 1 [pR (some (x + 12))] M = _
      rw [tX12_family]
      exact rd_i rfl mB.k (it_f (fun q => ho ((mb0 mO).mp q)) rfl)
end OPF
