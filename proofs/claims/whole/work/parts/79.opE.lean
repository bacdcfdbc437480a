/-! CALLS on enumerations -/
section OPS
variable {x : Nat} {E E' : List TE} {R R' : List TR} {F F' : List TF} {W W' : List TW} {O O' : List TO} {T T' : List TL} {S S' : TS} {jW jO jW' jO' n : Nat} {M M1 : Mem}
theorem XB.lt (h : XB x M) : x + 58 ≤ mT M := h.2.2.1
theorem Op.chg {K : PV → Prop} {cl md : Mem → Option Rt} {v : PV} (h : Inv x E R F W O T S jW jO M) (h1 : cl M = some (some v, M1)) (f : Fr x KX (AX x) (AX x) (AX x) n M M1) (hX : XI x E' R' F' W' O' T' S' jW' jO' M1) (h2 : MI (x + 12) E R F W O T S M1 → ∃ M2, md M1 = some (some v, M2) ∧ CU (x + 12) M1 M2 ∧ MI (x + 12) E' R' F' W' O' T' S' M2) (aw : AW E' R' F' W' O' T' S' jW' jO') (hn : n + 64 * pot W O T jW jO ≤ 64 * (pot W' O' T' jW' jO' + 1)) (hk : K v := by exact ⟨_, rfl⟩) : OpG K x W O T jW jO M cl md := by
  have hlt := h.1.1.1.lt
  have hu : MU (x + 12) M M1 := f.mu (by omega) (fun k hk q => by omega) (fun i hi => ⟨fun q => by omega, fun q => by omega⟩)
  obtain ⟨M2, g1, g2, g3⟩ := h2 (h.2.1.mu hu)
  refine ⟨v, M1, M2, E', R', F', W', O', T', S', jW', jO', n, h1, g1, ⟨hX.cu g2, g3, aw⟩, ⟨hn, by rw [g2.1.1]; exact f.1.2.1, by rw [g2.1.2.1]; exact f.1.2.2.2.1⟩, (fun b L xs hs => ?_), (h.2.1.mu hu).1.k, hk⟩
  have s1 := hs.fr (by omega) f (fun a ha q => by omega)
  exact ⟨s1, s1.fr (by have := f.fT; omega) (g2.fr f.v f.li) (fun a ha q => by omega)⟩
theorem XI.frE {K L : Nat → Prop} (h : XI x E R F W O T S jW jO M) (f : Fr x K L No No n M M1) (hK : ∀ k, K k → 128 ≤ k ∧ k ≤ 195) (hL : ∀ l, L l → l = x + 1 ∨ (x + 57 < l ∧ kd M (l - 1) = 3)) (hE' : XE x M1 E') : XI x E' R F W O T S jW jO M1 := by
  obtain ⟨⟨hB, hv, hLI⟩, h1, h2, h3, h4, h5, h6, h7⟩ := h
  have nK : ∀ (ks : List Nat), ks.all (fun k => decide (k < 128 ∨ 195 < k)) = true → ∀ k ∈ ks, ¬ K k := fun ks hks k hk q => by
    have a1 := of_decide_eq_true (List.all_eq_true.mp hks k hk)
    have a2 := hK k q
    omega
  have nL : ∀ l, x + 1 < l → l ≤ x + 57 → ¬ L l := fun l h1 h2 q => by have := hL l q; omega
  have nX : ∀ q ∈ xtab, ¬ K q.1 := fun q hq z => by
    have a1 : ∀ q ∈ xtab, 704 ≤ q.1 := by decide
    have a2 := hK _ z
    have := a1 q hq
    omega
  refine ⟨⟨hB.fr f nX (fun _ _ => id), f.v, f.li⟩, hE', h2.fr f (nK _ (by decide)) (nL _ (by omega) (by omega)) (fun a ha hk hk1 => ⟨fun q => ?_, fun q => ?_⟩), h3.fr f (nK _ (by decide)) (nL _ (by omega) (by omega)) (fun _ _ _ => ⟨id, id⟩), h4.fr hB f (nK _ (by decide)) (nL _ (by omega) (by omega)) (fun _ _ _ => id), h5.fr hB f (nK _ (by decide)) (nL _ (by omega) (by omega)) (fun _ _ _ => id), h6.fr f (nK _ (by decide)) (nL _ (by omega) (by omega)) ⟨fun _ _ _ => id, fun _ _ => id⟩, h7.fr hB f (nK _ (by decide)) ⟨id, id⟩ id⟩
  · rcases hL _ q with q | ⟨-, q⟩
    · omega
    · rw [Nat.add_sub_cancel, hk] at q; omega
  · rcases hL _ q with q | ⟨-, q⟩
    · omega
    · rw [show a + 2 - 1 = a + 1 by omega, hk1] at q; omega
theorem ob0 (h : XO x M O jO) : (gI M 711 x ≤ 0 ↔ O = []) := by
  have hl := isO.len h.1
  rw [List.length_append, List.length_map] at hl
  rw [h.2, show (0 : Int32) = nI 0 from rfl, nI_leI (by omega) (by omega)]
  cases O <;> simp
theorem mb0 {m : Nat} (h : MO m M O) : (gI M 791 m ≤ 0 ↔ O = []) := by
  have hl := h.2.1
  rw [h.1, show (0 : Int32) = nI 0 from rfl, nI_leI (by omega) (by omega)]
  cases O <;> simp
theorem srtOK.mono {nE nF nE' nF' : Nat} {s o : Int32} (h : srtOK nE nF s o) (h1 : nE ≤ nE') (h2 : nF ≤ nF') : srtOK nE' nF' s o := by
  obtain ⟨a, b, c, d, e⟩ := h
  refine ⟨a, b, fun z => ?_, d, fun z => ?_⟩
  · obtain ⟨k, k1, k2⟩ := c z
    exact ⟨k, by omega, k2⟩
  · obtain ⟨k, k1, k2⟩ := e z
    exact ⟨k, by omega, k2⟩
theorem wfR.mono {nE nF nE' nF' : Nat} (h : wfR nE nF R) (h1 : nE ≤ nE') (h2 : nF ≤ nF') : wfR nE' nF' R := fun r q hq => ⟨fun p t ht => ⟨((h r q hq).1 p t ht).1.mono h1 h2, ((h r q hq).1 p t ht).2⟩, (h r q hq).2⟩
theorem wfO.nil {nT : Nat} : wfO E R F W [] nT := fun o q hq => by simp at hq
theorem cntE_app (q : TE) : cntE (E ++ [q]) = cntE E + (if q.2.2.1 = 0 then 0 else 1) := by
  unfold cntE
  rw [List.filter_append, List.length_append]
  congr 1
  by_cases h : q.2.2.1 = 0
  · rw [if_pos h, List.filter_cons_of_neg (by simp [h])]
    rfl
  · rw [if_neg h, List.filter_cons_of_pos (by simp [h])]
    rfl
/-- an enumeration has changed, but for its flag 'started' -/
theorem cntE_set {k : Nat} {q q' : TE} (hq : E[k]? = some q) (hs : q'.2.2.1 = q.2.2.1) : cntE (E.set k q') = cntE E := by
  unfold cntE
  have hk : k < E.length := (List.getElem?_eq_some_iff.mp hq).1
  have he : E[k] = q := (List.getElem?_eq_some_iff.mp hq).2
  rw [List.set_eq_take_append_cons_drop, if_pos hk]
  conv => rhs; rw [← List.take_append_drop k E, List.drop_eq_getElem_cons hk, he]
  rw [List.filter_append, List.filter_append, List.length_append, List.length_append]
  congr 1
  simp only [List.filter_cons, hs]
  split <;> simp
theorem awE (aw : AW E R F W [] T S jW jO) (h1 : E.length ≤ E'.length) (h2 : cntE E' = cntE E) : AW E' R F W [] T S jW jO := by
  obtain ⟨a1, a2, a3, a4, a5, a6⟩ := aw
  refine ⟨a1.mono h1 (Nat.le_refl _), a2, a3, wfO.nil, a5, ?_⟩
  unfold wfS at a6 ⊢
  rw [h2]
  exact a6
abbrev nE0 (M : Mem) : Mem := sF (nL (nO M 3 4)) 192 (mT M) (some (mT M + 1))
theorem nE_k : kd (nL (nO M 3 4)) (mT M) = 3 := by
  have e1 : kd (nL (nO M 3 4)) (mT M) = (if mT M = mT M + 1 then 0 else kd (nO M 3 4) (mT M)) := rfl
  have e2 : kd (nO M 3 4) (mT M) = 3 := if_pos rfl
  rw [e1, if_neg (by omega), e2]
theorem nE_45 (e11 : ex 11 1 [pR (some (mT (nO M 3 4)))] (nO (nO M 3 4) 0 3) = some (none, nL (nO M 3 4))) : ex 45 1 [pR (some (mT M))] (nO M 3 4) = some (none, nE0 M) := by
  rw [tX3_init]
  exact nn_i rfl (bd_i (rd_i rfl (if_pos rfl) (clV_i e11 (rd_i rfl nE_k (bd_i rfl)))))
theorem isL_sF {l k a : Nat} {v : Option Nat} {as : List Nat} (h : isL M l as) (hk : k ≠ 1) : isL (sF M k a v) l as := by
  obtain ⟨y1, y2, y3, d, y4, y5⟩ := h
  have e1 : gR (sF M k a v) 1 l = gR M 1 l := congrFun (up2_ne (fun q => hk q.symm)) _
  exact ⟨y1, y2, y3, d, e1.trans y4, y5⟩
theorem nE_l (l2 : isL (nL (nO M 3 4)) (mT (nO M 3 4)) []) : isL (nE0 M) (mT M + 1) [] := by
  have e : mT (nO M 3 4) = mT M + 1 := rfl
  rw [e] at l2
  exact isL_sF l2 (by decide)
theorem nE_192 : gR (nE0 M) 192 (mT M) = some (mT M + 1) := up2_at
theorem nE_z (k : Nat) : gI (nE0 M) k (mT M) = 0 := by
  have e1 : gI (nE0 M) k (mT M) = up2 (gI (nO (nO M 3 4) 0 3)) 0 (mT M + 1) 0 k (mT M) := rfl
  have e2 : gI (nO (nO M 3 4) 0 3) k (mT M) = if mT M = mT M + 1 then 0 else gI (nO M 3 4) k (mT M) := rfl
  have e3 : gI (nO M 3 4) k (mT M) = 0 := if_pos rfl
  rw [e1, up2_no (by omega), e2, if_neg (by omega), e3]
/-- new Enumeration(), put behind the others -/
theorem c_newEnum (hB : XB x M) (hv : PIv x M) (hL : LI M) (hE : XE x M E) (hEl : E.length ≤ 1000) : ∃ Mc M1, ex 45 1 [pR (some (mT M))] (nO M 3 4) = some (none, Mc) ∧ XB x Mc ∧ ex 19 2 [pR (some (x + 1)), pR (some (mT M))] Mc = some (some (pI 1), M1) ∧ XE x M1 (E ++ [([], 0, 0, 0)]) ∧ Fr x No (fun l => l = x + 1) No No 26 M M1 := by
  have f1 : Fr x No No No No 1 M (nO M 3 4) := (Fr.rf hv hL).bO (by omega) (by omega)
  have hB1 : XB x (nO M 3 4) := hB.fr f1 (fun _ _ => id) (fun _ _ => id)
  have hT := hB.lt
  obtain ⟨e11, f2, l2, t2⟩ := newList f1 hB1
  have f3 : Fr x No No No No 2 M (nE0 M) := f2.bF (Or.inr ⟨Nat.le_refl _, Or.inl (by omega)⟩)
  have e45 := nE_45 e11
  have lc := nE_l l2
  have g192 := nE_192 (M := M)
  have gz := nE_z (M := M)
  have kc : kd (nE0 M) (mT M) = 3 := by rw [kd_sF]; exact nE_k
  generalize nE0 M = Mc at f3 e45 lc g192 gz kc
  have hB3 : XB x Mc := hB.fr f3 (fun _ _ => id) (fun _ _ => id)
  have cnew : cE x Mc ([], 0, 0, 0) (mT M) := ⟨kc, g192, gz 193, gz 194, gz 195, isO.nil lc⟩
  have lE : isO Mc x (x + 1) (fun r b => cE x Mc r b ∧ b ≠ mT M) E := isO.mono hE (f3.ls id) (fun q b hb hc => ⟨hc.fr f3 (fun _ _ => id) id, fun e => by have := lt_of_kd hv hc.1 (by omega); omega⟩)
  obtain ⟨M1, e19, lm, v1, lE1⟩ := isO.add (q := (([], 0, 0, 0) : TE)) (c := 3) lE f3.v (fun d hd => (hB3.de d hd).1) f3.li (by omega) kc (by omega) (by omega) cnew
  have f4 : Fr x No (fun l => l = x + 1) No No (0 + 24) Mc M1 := (Fr.rf (K := No) (L := fun l => l = x + 1) (AI := No) (AJ := No) f3.v f3.li).bL lm v1 (Or.inl rfl)
  have hE1 : XE x M1 (E ++ [([], 0, 0, 0)]) := lE1 _ (fun q b hb hc => hc.fr f4 (fun _ _ => id) (fun q => by omega))
  have f5 := (f3.mo (L' := fun l => l = x + 1) (Nat.le_refl _) (fun _ => id) (fun _ q => q.elim) (fun _ => id) (fun _ => id)).tr f4
  exact ⟨Mc, M1, e45, hB3, e19, hE1, f5.mo (by omega) (fun _ => id) (fun _ => id) (fun _ => id) (fun _ => id)⟩
theorem nI4 {n : Nat} (h : n < 4) : nI n < 4 := nI_lt (b := 4) h (by decide)
theorem ME_newEnum {m : Nat} (mE : ME m M E) (h4 : E.length < 4) : ME m (sI M 768 m (nI E.length + 1)) (E ++ [([], 0, 0, 0)]) := by
  obtain ⟨y1, y2, y3, y4⟩ := mE
  refine ⟨?_, by rw [List.length_append]; simp only [List.length_cons, List.length_nil]; omega, fun e q hq => ?_, fun e he1 he2 => ?_⟩
  · show up2 (gI M) 768 m (nI E.length + 1) 768 m = _
    rw [up2_at, List.length_append, nI_1]
    rfl
  · by_cases e1 : e < E.length
    · rw [List.getElem?_append_left e1] at hq
      exact y3 e q hq
    · rw [List.getElem?_append_right (by omega)] at hq
      have : e - E.length < 1 := (List.getElem?_eq_some_iff.mp hq).1
      rw [show e - E.length = 0 by omega] at hq
      cases hq
      obtain ⟨z1, z2, z3, z4⟩ := y4 e (by omega) (by omega)
      exact ⟨by simp, z1, fun c r hr => by simp at hr, ⟨z2, Or.inl rfl⟩, ⟨z3, Or.inl rfl⟩, ⟨z4, Or.inl rfl⟩⟩
  · rw [List.length_append] at he1
    simp only [List.length_cons, List.length_nil] at he1
    exact y4 e (by omega) he2
/-- a number of the model's has changed: what does not name it stays -/
theorem g_ne {m k j : Nat} {v : Int32} (h : j ≠ k) : gI (sI M k m v) j m = gI M j m := congrFun (up2_ne h) m
theorem op_enumeration (h : Inv x E R F W O T S jW jO M) : Op x W O T jW jO M (fun M => ex 73 1 [pR (some x)] M) (fun M => ex 164 1 [pR (some (x + 12))] M) := by
  obtain ⟨hX, hM, aw⟩ := id h
  obtain ⟨⟨hB, hv, hL⟩, hE, -, -, -, hO, -, -⟩ := id hX
  obtain ⟨mB, mE, -, -, -, mO, -, -⟩ := id hM
  by_cases ho : O = []
  · have c0 := (ob0 hO).mpr ho
    have d0 := (mb0 mO).mpr ho
    have hEl := mE.2.1
    by_cases hf : E.length = 4
    · refine Op.keep h (v := pI (-3)) ?_ ?_
      · show ex 73 1 [pR (some x)] M = _
        rw [tX11_enumeration]
        exact rd_i rfl hB.k (it_t c0 (rd_i rfl hB.k (rd_i hB.r1.1 hB.r1.2 (clI_i hE.size (it_f (by rw [hf]; decide) rfl)))))
      · show ex 164 1 [pR (some (x + 12))] M = _
        rw [tX12_enumeration]
        exact rd_i rfl mB.k (it_t d0 (rd_i rfl mB.k (it_f (not_not_intro (by rw [mE.1, hf]; rfl)) rfl)))
    · obtain ⟨Mc, M1, e45, hB3, e19, hE1, f5⟩ := c_newEnum hB hv hL hE (by omega)
      have hX1 := hX.frE f5 (fun _ q => q.elim) (fun l q => Or.inl q) hE1
      have hB4 := hX1.1.1
      refine Op.chg (E' := E ++ [([], 0, 0, 0)]) (v := pI (nI E.length)) h (M1 := M1) ?_ (f5.mo (n' := 26) (Nat.le_refl _) (fun _ q => q.elim) (fun l q => by omega) (fun _ q => q.elim) (fun _ q => q.elim)) hX1 (fun hM1 => ?_) ?_ (by omega)
      · show ex 73 1 [pR (some x)] M = _
        rw [tX11_enumeration]
        refine rd_i rfl hB.k (it_t c0 (rd_i rfl hB.k (rd_i hB.r1.1 hB.r1.2 (clI_i hE.size (it_t (nI4 (by omega)) (rd_i rfl hB.k (bd_i (rd_i rfl (if_pos rfl) (clV_i e45 (rd_i hB.r1.1 hB3.r1.2 (clI_i e19 (rd_i rfl hB4.k (rd_i hB4.r1.1 hB4.r1.2 (clI_i hE1.size ?_))))))))))))))
        rw [List.length_append, show ([([], 0, 0, 0)] : List TE).length = 1 from rfl, nI_pred]
      · obtain ⟨mB1, mE1, mR1, mF1, mW1, mO1, mL1, mS1⟩ := hM1
        have d1 := (mb0 mO1).mpr ho
        refine ⟨sI M1 768 (x + 12) (nI E.length + 1), ?_, CU.rf.bI (by omega), mB1, ME_newEnum mE1 (by omega), mR1.cg (g_ne (by decide)) rfl rfl rfl rfl rfl rfl rfl rfl rfl rfl rfl, mF1.cg (g_ne (by decide)) rfl rfl, mW1.cg (g_ne (by decide)) rfl rfl rfl, mO1.cg (g_ne (by decide)) rfl rfl rfl, mL1.cg (g_ne (by decide)) rfl rfl rfl rfl rfl rfl rfl rfl rfl rfl rfl, mS1.cg (g_ne (by decide)) (g_ne (by decide)) (g_ne (by decide)) (g_ne (by decide)) (g_ne (by decide)) (g_ne (by decide)) (g_ne (by decide)) (g_ne (by decide)) (g_ne (by decide)) (g_ne (by decide)) rfl rfl⟩
        show ex 164 1 [pR (some (x + 12))] M1 = _
        rw [tX12_enumeration]
        refine rd_i rfl mB1.k (it_t d1 (rd_i rfl mB1.k (it_t (fun q => ?_) (rd_i rfl mB1.k (rd_i rfl mB1.k (bd_i (rd_i rfl mB1.k ?_)))))))
        · rw [mE1.1] at q
          exact hf (nI_inj (b := 4) (by omega) (by omega) q)
        · rw [mE1.1]
          have e9 : gI (sI M1 768 (x + 12) (nI E.length + 1)) 768 (x + 12) = nI E.length + 1 := up2_at
          rw [e9, nI_1, nI_pred]
      · subst ho
        exact awE aw (by rw [List.length_append]; omega) (by rw [cntE_app]; rfl)
  · refine Op.keep h (v := pI (-2)) ?_ ?_
    · show ex 73 1 [pR (some x)] M = _
      rw [tX11_enumeration]
      exact rd_i rfl hB.k (it_f (fun q => ho ((ob0 hO).mp q)) rfl)
    · show ex 164 1 [pR (some (x + 12))] M = _
      rw [tX12_enumeration]
      exact rd_i rfl mB.k (it_f (fun q => ho ((mb0 mO).mp q)) rfl)
-- constant
theorem m8 (a b : Nat) : (8 : Int32) * nI a + nI b = nI (8 * a + b) := by rw [show (8 : Int32) = nI 8 from rfl, nI_mul, nI_add]
theorem ne8 {n : Nat} (h : n < 8) : ¬ nI n = 8 := fun q => by
  have := nI_inj (b := 8) (by omega) (by omega) q
  omega
theorem lt8 {n : Nat} (h : n < 8) : nI n < 8 := nI_lt (b := 8) h (by decide)
/-- new Constant, put behind the others of an enumeration -/
theorem c_newConst {k a : Nat} {q : TE} {nm : Int64} {b : Int32} (hB : XB x M) (hv : PIv x M) (hL : LI M) (hb : b = 0 ∨ b = 1) (hc : cE x M q a) (hx : x + 57 < a) (hn : q.1.length ≤ 1000) (hcl : ∀ (M' : Mem) (q' : TE), (∀ as, isL M (x + 1) as → isL M' (x + 1) as) → cE x M' q' a → (∀ q b, b ≠ a → x + 57 < b → cE x M q b → cE x M' q b) → XE x M' (E.set k q')) :
    ∃ Mc M1, ex 42 4 [pR (some (mT M)), pJ nm, pI b] (nO M 2 2) = some (none, Mc) ∧ XB x Mc ∧ (kd Mc (a + 1) = 0 ∧ kd Mc a = 3) ∧ ex 19 2 [pR (some (a + 1)), pR (some (mT M))] Mc = some (some (pI 1), M1) ∧ cE x M1 (q.1 ++ [(nm, b)], q.2) a ∧ XE x M1 (E.set k (q.1 ++ [(nm, b)], q.2)) ∧ Fr x No (fun l => l = a + 1) No No 25 M M1 := by
  have hT := hB.lt
  have k2 : kd (nO M 2 2) (mT M) = 2 := if_pos rfl
  have e42 : ex 42 4 [pR (some (mT M)), pJ nm, pI b] (nO M 2 2) = some (none, sI (sJ (nO M 2 2) 128 (mT M) nm) 129 (mT M) b) := by
    rw [tX2_init]
    exact nn_i rfl (rd_i rfl k2 (bd_i (rd_i rfl k2 (zo_i hb (bd_i rfl)))))
  have f1 : Fr x No No No No 1 M (sI (sJ (nO M 2 2) 128 (mT M) nm) 129 (mT M) b) := (((Fr.rf hv hL).bO (by omega) (by omega)).bJ (Or.inr (Nat.le_refl _))).bI (Or.inr (Nat.le_refl _))
  have cn : cC (sI (sJ (nO M 2 2) 128 (mT M) nm) 129 (mT M) b) (nm, b) (mT M) := by
    refine ⟨?_, ?_, ?_⟩
    · rw [kd_sI, kd_sJ]; exact k2
    · rw [gJ_sI, gJ_sJ, up2_at]
    · rw [gI_sI, up2_at]
  generalize sI (sJ (nO M 2 2) 128 (mT M) nm) 129 (mT M) b = Mc at e42 f1 cn
  have hB1 : XB x Mc := hB.fr f1 (fun _ _ => id) (fun _ _ => id)
  have hca := hc.fr f1 (fun _ _ => id) id
  have lC : isO Mc x (a + 1) (fun r c => cC Mc r c ∧ c ≠ mT M) q.1 := isO.mono hc.2.2.2.2.2 (f1.ls id) (fun r c _ h => ⟨h.fr f1 ⟨id, id⟩, fun e => by have := lt_of_kd hv h.1 (by omega); omega⟩)
  obtain ⟨M1, e19, lm, v1, lC1⟩ := isO.add (q := ((nm, b) : TC)) (c := 2) lC f1.v (fun d hd => (hB1.de d hd).1) f1.li (by omega) cn.1 (by omega) (by omega) cn
  have f2 : Fr x No (fun l => l = a + 1) No No (0 + 24) Mc M1 := (Fr.rf (K := No) (L := fun l => l = a + 1) (AI := No) (AJ := No) f1.v f1.li).bL lm v1 (Or.inl rfl)
  have f3 : Fr x No (fun l => l = a + 1) No No 25 M M1 := ((f1.mo (L' := fun l => l = a + 1) (Nat.le_refl _) (fun _ => id) (fun _ q => q.elim) (fun _ => id) (fun _ => id)).tr f2).mo (by omega) (fun _ => id) (fun _ => id) (fun _ => id) (fun _ => id)
  have ha := lt_of_kd hv hc.1 (by omega)
  obtain ⟨c1, c2, c3, c4, c5, c6⟩ := hc
  have cnew : cE x M1 (q.1 ++ [(nm, b)], q.2) a := ⟨by rw [f3.fk ha]; exact c1, by rw [f3.fR (by omega) ha id]; exact c2, by rw [f3.fI (by omega) ha id]; exact c3, by rw [f3.fI (by omega) ha id]; exact c4, by rw [f3.fI (by omega) ha id]; exact c5, lC1 _ (fun r c _ h => h.fr f2 ⟨id, id⟩)⟩
  exact ⟨Mc, M1, e42, hB1, ⟨hca.2.2.2.2.2.k, hca.1⟩, e19, cnew, hcl M1 _ (f3.ls (fun q => by omega)) cnew (fun r d hne hd hr => hr.fr f3 (fun _ _ => id) (fun q => by omega)), f3⟩
theorem ME_newConst {m k : Nat} {q : TE} {nm : Int64} {b : Int32} (mE : ME m M E) (hq : E[k]? = some q) (h8 : q.1.length < 8) (hb : b = 0 ∨ b = 1) : ME m (wI (wI (wJ M (m + 2) (8 * k + q.1.length) nm) (m + 3) (8 * k + q.1.length) b) (m + 1) k (nI q.1.length + 1)) (E.set k (q.1 ++ [(nm, b)], q.2)) := by
  have hk : k < E.length := (List.getElem?_eq_some_iff.mp hq).1
  obtain ⟨y1, y2, y3, y4⟩ := mE
  unfold ME
  simp only [gI_wI, gI_wJ, aI_wI, aI_wJ, aJ_wI, aJ_wJ]
  simp only [up1_at, up1_no (show m + 1 ≠ m + 3 by omega), up1_no (show m + 3 ≠ m + 1 by omega), up1_no (show m + 4 ≠ m + 1 by omega), up1_no (show m + 4 ≠ m + 3 by omega), up1_no (show m + 19 ≠ m + 1 by omega), up1_no (show m + 19 ≠ m + 3 by omega), up1_no (show m + 20 ≠ m + 1 by omega), up1_no (show m + 20 ≠ m + 3 by omega)]
  refine ⟨by rw [List.length_set]; exact y1, by rw [List.length_set]; exact y2, fun e r hr => ?_, fun e he1 he2 => ?_⟩
  · rw [List.getElem?_set] at hr
    by_cases e1 : k = e
    · subst e1
      rw [if_pos rfl, if_pos hk] at hr
      cases hr
      obtain ⟨z1, z2, z3, z4⟩ := y3 k q hq
      refine ⟨by rw [List.length_append]; simp only [List.length_cons, List.length_nil]; omega, by rw [up1_at, List.length_append, nI_1]; rfl, fun c t ht => ?_, z4⟩
      by_cases e2 : c < q.1.length
      · rw [List.getElem?_append_left e2] at ht
        rw [up1_no (by omega), up1_no (by omega)]
        exact z3 c t ht
      · rw [List.getElem?_append_right (by omega)] at ht
        have : c - q.1.length < 1 := (List.getElem?_eq_some_iff.mp ht).1
        rw [show c - q.1.length = 0 by omega] at ht
        cases ht
        rw [show c = q.1.length by omega, up1_at, up1_at]
        exact ⟨rfl, rfl, hb⟩
    · rw [if_neg e1] at hr
      obtain ⟨z1, z2, z3, z4⟩ := y3 e r hr
      refine ⟨z1, by rw [up1_no (fun z => e1 z.symm)]; exact z2, fun c t ht => ?_, z4⟩
      have hc : c < r.1.length := (List.getElem?_eq_some_iff.mp ht).1
      rw [up1_no (by omega), up1_no (by omega)]
      exact z3 c t ht
  · rw [List.length_set] at he1
    rw [up1_no (by omega)]
    exact y4 e he1 he2
/-- the model's other rows, numbers -/
theorem a_ne {m i j p : Nat} {v : Int32} (h : i ≠ j) : aI (wI M (m + j) p v) (m + i) = aI M (m + i) := up1_no (by omega)
theorem j_ne {m i j p : Nat} {v : Int64} (h : i ≠ j) : aJ (wJ M (m + j) p v) (m + i) = aJ M (m + i) := up1_no (by omega)
theorem MI_wI {m j p : Nat} {v : Int32} (h : MI m E R F W O T S M) (hE : ME m (wI M (m + j) p v) E') (hj : j ∈ [1, 2, 3, 4]) : MI m E' R F W O T S (wI M (m + j) p v) := by
  obtain ⟨h1, h2, h3, h4, h5, h6, h7, h8⟩ := h
  have hj : j ≤ 4 := by
    have : ∀ j ∈ [1, 2, 3, 4], j ≤ 4 := by decide
    exact this j hj
  exact ⟨h1, hE, h3.cg rfl (a_ne (by omega)) (a_ne (by omega)) (a_ne (by omega)) (a_ne (by omega)) (a_ne (by omega)) (a_ne (by omega)) (a_ne (by omega)) rfl rfl rfl rfl, h4.cg rfl (a_ne (by omega)) (a_ne (by omega)), h5.cg rfl (a_ne (by omega)) (a_ne (by omega)) rfl, h6.cg rfl (a_ne (by omega)) (a_ne (by omega)) rfl, h7.cg rfl (a_ne (by omega)) (a_ne (by omega)) (a_ne (by omega)) (a_ne (by omega)) (a_ne (by omega)) (a_ne (by omega)) (a_ne (by omega)) (a_ne (by omega)) rfl rfl rfl, h8.cg rfl rfl rfl rfl rfl rfl rfl rfl rfl rfl (a_ne (by omega)) rfl⟩
/-- all but the enumerations' things are as they were -/
def UE (m : Nat) (M M' : Mem) : Prop := (kd M' = kd M ∧ ln M' = ln M ∧ gR M' = gR M) ∧ (∀ k, k ≠ 768 → gI M' k m = gI M k m) ∧ (∀ i, 5 ≤ i → i ≠ 19 → i ≠ 20 → aI M' (m + i) = aI M (m + i) ∧ aJ M' (m + i) = aJ M (m + i)) ∧ (∀ r, r < 10 → aI M' (m + 19) r = aI M (m + 19) r)
theorem MI.ue {m : Nat} {M' : Mem} (h : MI m E R F W O T S M) (u : UE m M M') (hE : ME m M' E') : MI m E' R F W O T S M' := by
  obtain ⟨h1, h2, h3, h4, h5, h6, h7, h8⟩ := h
  obtain ⟨⟨u1, u2, u3⟩, u4, u5, u6⟩ := u
  have a : ∀ i, 5 ≤ i → i ≠ 19 → i ≠ 20 → aI M' (m + i) = aI M (m + i) := fun i p q r => (u5 i p q r).1
  have b : ∀ i, 5 ≤ i → i ≠ 19 → i ≠ 20 → aJ M' (m + i) = aJ M (m + i) := fun i p q r => (u5 i p q r).2
  refine ⟨⟨by rw [u1]; exact h1.1, fun q hq => by rw [u1, u2, u3]; exact h1.2 q hq⟩, hE, ?_, h4.cg (u4 _ (by omega)) (a _ (by omega) (by omega) (by omega)) (a _ (by omega) (by omega) (by omega)), h5.cg (u4 _ (by omega)) (a _ (by omega) (by omega) (by omega)) (a _ (by omega) (by omega) (by omega)) (b _ (by omega) (by omega) (by omega)), h6.cg (u4 _ (by omega)) (a _ (by omega) (by omega) (by omega)) (a _ (by omega) (by omega) (by omega)) (b _ (by omega) (by omega) (by omega)), h7.cg (u4 _ (by omega)) (a _ (by omega) (by omega) (by omega)) (a _ (by omega) (by omega) (by omega)) (a _ (by omega) (by omega) (by omega)) (a _ (by omega) (by omega) (by omega)) (a _ (by omega) (by omega) (by omega)) (a _ (by omega) (by omega) (by omega)) (a _ (by omega) (by omega) (by omega)) (a _ (by omega) (by omega) (by omega)) (b _ (by omega) (by omega) (by omega)) (b _ (by omega) (by omega) (by omega)) (b _ (by omega) (by omega) (by omega)), h8.cg (u4 _ (by omega)) (u4 _ (by omega)) (u4 _ (by omega)) (u4 _ (by omega)) (u4 _ (by omega)) (u4 _ (by omega)) (u4 _ (by omega)) (u4 _ (by omega)) (u4 _ (by omega)) (u4 _ (by omega)) (a _ (by omega) (by omega) (by omega)) (b _ (by omega) (by omega) (by omega))⟩
  obtain ⟨y1, y2, y3, y4⟩ := h3
  unfold MR
  rw [u4 773 (by omega), a 5 (by omega) (by omega) (by omega), a 7 (by omega) (by omega) (by omega), a 8 (by omega) (by omega) (by omega), a 10 (by omega) (by omega) (by omega), a 11 (by omega) (by omega) (by omega), a 12 (by omega) (by omega) (by omega), b 6 (by omega) (by omega) (by omega), b 9 (by omega) (by omega) (by omega), b 13 (by omega) (by omega) (by omega), b 14 (by omega) (by omega) (by omega)]
  refine ⟨y1, y2, fun r q hq => ?_, fun r hr1 hr2 => ?_⟩
  · have hr : r < R.length := (List.getElem?_eq_some_iff.mp hq).1
    rw [u6 r (by omega)]
    exact y3 r q hq
  · rw [u6 r (by omega)]
    exact y4 r hr1 hr2
end OPS
