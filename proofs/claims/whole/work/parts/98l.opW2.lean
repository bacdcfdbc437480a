/-! ROWS: new ones, used again; put -/
theorem uJ_self (M : Mem) (d : Nat) : uJ M d (aJ M d) = M := by
  have h : up1 (aJ M) d (aJ M d) = aJ M := funext fun b => by
    by_cases q : b = d
    · subst q; exact up1_at
    · exact up1_no q
  unfold uJ
  rw [h]
  rfl
theorem up1_up1 {α : Type} (f : Nat → α) (d : Nat) (a b : α) : up1 (up1 f d a) d b = up1 f d b := funext fun j => by
  by_cases q : j = d
  · subst q; rw [up1_at, up1_at]
  · rw [up1_no q, up1_no q, up1_no q]
theorem uJ_uJ (M : Mem) (d : Nat) (f g : Nat → Int64) : uJ (uJ M d f) d g = uJ M d g := by
  have h : aJ (uJ M d f) = up1 (aJ M) d f := rfl
  unfold uJ at *
  show (mT M, mS M, kd M, gI M, gJ M, gR M, ln M, aI M, up1 (up1 (aJ M) d f) d g, aR M, sR M) = _
  rw [up1_up1]
theorem c_fill_loop {d L : Nat} {v : Int64} (hL : L < 2147483648) : ∀ (k i : Nat) (M : Mem), k + i = L → kd M d = 21 → ln M d = L → ∃ g, rn PP 22 6 [some (pR (some d)), some (pJ v), none, some (pI (nI i)), some (pI (nI L))] [] M = some (none, uJ M d g) ∧ (∀ j, i ≤ j → j < L → g j = v) ∧ (∀ j, j < i → g j = aJ M d j) := by
  intro k
  induction k with
  | zero =>
    intro i M hi hk hl
    refine ⟨aJ M d, ?_, fun j h1 h2 => by omega, fun j _ => rfl⟩
    rw [tJ7_fill_d0a16_6, uJ_self]
    exact it_t (nI_le (by omega) (by omega)) rfl
  | succ k ih =>
    intro i M hi hk hl
    obtain ⟨g, e1, e2, e3⟩ := ih (i + 1) (wJ M d i v) (by omega) (by rw [kd_wJ]; exact hk) (by rw [ln_wJ]; exact hl)
    have ew : aJ (wJ M d i v) d = up1 (aJ M d) i v := by rw [aJ_wJ, up1_at]
    refine ⟨g, ?_, fun j h1 h2 => ?_, fun j hj => ?_⟩
    · rw [tJ7_fill_d0a16_6]
      refine it_f (nI_ge (by omega) (by omega)) (ix_i (n := i) rfl (Or.inl hk) rfl (by omega) (by omega) (bd_i ?_))
      rw [nI_1, e1]
      show some (none, uJ (uJ M d (up1 (aJ M d) i v)) d g) = _
      rw [uJ_uJ]
    · by_cases q : j = i
      · subst q
        rw [e3 j (by omega), ew, up1_at]
      · exact e2 j (by omega) h2
    · rw [e3 j (by omega), ew, up1_no (by omega)]
theorem c_fill {d L : Nat} {v : Int64} {M : Mem} (hL : L < 2147483648) (hk : kd M d = 21) (hl : ln M d = L) : ∃ g, ex 22 5 [pR (some d), pJ v] M = some (none, uJ M d g) ∧ (∀ j, j < L → g j = v) := by
  obtain ⟨g, e1, e2, -⟩ := c_fill_loop (v := v) hL L 0 M (by omega) hk hl
  refine ⟨g, ?_, fun j hj => e2 j (by omega) hj⟩
  rw [tJ7_fill_d0a16]
  refine al_i rfl (by omega) ?_
  rw [hl]
  exact e1
section OPS
variable {x : Nat} {E E' : List TE} {R R' : List TR} {F F' : List TF} {W W' : List TW} {O O' : List TO} {T T' : List TL} {S S' : TS} {jW jO jW' jO' n : Nat} {M M' M1 : Mem}
theorem c_reuse {a : Nat} {q : Option TW} {p : Int32} {k : Nat} (hc : cW M q a) (hv : PIv x M) (hL : LI M) (hk : k ≤ 16) : ∃ M', ex 70 3 [pR (some a), pI p, pI (nI k)] M = some (none, M') ∧ cW M' (some (p, List.replicate k 0)) a ∧ Fr x (fun k => k = 640 ∨ k = 641) No No (fun d => d = a + 1) 0 M M' ∧ (∀ k b, b ≠ a → gI M' k b = gI M k b) ∧ (mT M' = mT M ∧ gR M' = gR M) := by
  obtain ⟨c1, c2, c3, c4, c5⟩ := hc
  have f0 : Fr x (fun k => k = 640 ∨ k = 641) No No (fun d => d = a + 1) 0 M (sI M 640 a p) := (Fr.rf hv hL).bI (Or.inl ⟨by omega, Or.inl rfl⟩)
  have f1 : Fr x (fun k => k = 640 ∨ k = 641) No No (fun d => d = a + 1) 0 M (sI (sI M 640 a p) 641 a (nI k)) := f0.bI (Or.inl ⟨by omega, Or.inr rfl⟩)
  obtain ⟨g, e22, hg⟩ := c_fill (v := 0) (M := sI (sI M 640 a p) 641 a (nI k)) (d := a + 1) (L := 16) (by omega) (by rw [kd_sI, kd_sI]; exact c3) (by rw [ln_sI, ln_sI]; exact c4)
  have f2 : Fr x (fun k => k = 640 ∨ k = 641) No No (fun d => d = a + 1) 0 M (uJ (sI (sI M 640 a p) 641 a (nI k)) (a + 1) g) := f1.bAJ (Or.inl rfl)
  refine ⟨_, ?_, ⟨?_, ?_, ?_, ?_, fun w hw => ?_⟩, f2, fun k b hb => ?_, ⟨rfl, rfl⟩⟩
  · rw [tX10_reuse]
    refine rd_i rfl c1 (bd_i (rd_i rfl c1 (bd_i (rd_i rfl c1 ?_))))
    rw [show gR (sI (sI M 640 a p) 641 a (nI k)) 642 a = some (a + 1) from c2]
    exact clV_i e22 rfl
  · rw [kd_uJ, kd_sI, kd_sI]; exact c1
  · rw [gR_uJ, gR_sI, gR_sI]; exact c2
  · rw [kd_uJ, kd_sI, kd_sI]; exact c3
  · rw [ln_uJ, ln_sI, ln_sI]; exact c4
  · cases hw
    refine ⟨?_, ?_, ?_, fun i v hi => ?_⟩
    · rw [gI_uJ, gI_sI, up2_ne (by omega), gI_sI, up2_at]
    · rw [gI_uJ, gI_sI, up2_at, List.length_replicate]
    · rw [List.length_replicate]; exact hk
    · have hi : (List.replicate k (0 : Int64))[i]? = some v := hi
      rw [List.getElem?_replicate] at hi
      by_cases z : i < k
      · rw [if_pos z] at hi
        cases hi
        rw [aJ_uJ, up1_at]
        exact hg i (by omega)
      · rw [if_neg z] at hi
        exact nomatch hi
  · rw [gI_uJ, gI_sI, gI_sI, up2_no hb, up2_no hb]
/-- only rows have changed -/
theorem XI.frW {K L AJ : Nat → Prop} (h : XI x E R F W O T S jW jO M) (f : Fr x K L No AJ n M M1) (hK : ∀ k, K k → (640 ≤ k ∧ k ≤ 642) ∨ k = 708) (hL : ∀ l, L l → l = x + 4) (hJ : ∀ d, AJ d → x + 58 < d ∧ kd M (d - 1) = 10) (hW' : XW x M1 W' jW') : XI x E R F W' O T S jW' jO M1 := by
  obtain ⟨⟨hB, hv, hLI⟩, h1, h2, h3, h4, h5, h6, h7⟩ := h
  have nK : ∀ (ks : List Nat), ks.all (fun k => decide (¬ ((640 ≤ k ∧ k ≤ 642) ∨ k = 708))) = true → ∀ k ∈ ks, ¬ K k := fun ks hks k hk q => by
    have a1 := of_decide_eq_true (List.all_eq_true.mp hks k hk)
    exact a1 (hK k q)
  have nX : ∀ q ∈ xtab, ¬ K q.1 := fun q hq z => by
    have a1 : ∀ q ∈ xtab, ¬ ((640 ≤ q.1 ∧ q.1 ≤ 642) ∨ q.1 = 708) := by decide
    exact a1 q hq (hK _ z)
  exact ⟨⟨hB.fr f nX (fun a ha q => q), f.v, f.li⟩, h1.fr f (nK _ (by decide)) (fun q => by have := hL _ q; omega) (fun a ha _ q => by have := hL _ q; omega), h2.fr f (nK _ (by decide)) (fun q => by have := hL _ q; omega) (fun a ha _ _ => ⟨fun q => by have := hL _ q; omega, fun q => by have := hL _ q; omega⟩), h3.fr f (nK _ (by decide)) (fun q => by have := hL _ q; omega) (fun a ha _ => ⟨id, id⟩), hW', h5.fr hB f (nK _ (by decide)) (fun q => by have := hL _ q; omega) (fun a ha hk q => by have := (hJ _ q).2; rw [Nat.add_sub_cancel] at this; omega), h6.fr f (nK _ (by decide)) (fun q => by have := hL _ q; omega) ⟨fun k hk h5 q => by have := (hJ _ q).2; rw [Nat.add_sub_cancel] at this; omega, fun d hd q => by have := (hJ _ q).1; omega⟩, h7.fr hB f (nK _ (by decide)) ⟨id, id⟩ (fun q => by have := (hJ _ q).1; omega)⟩
theorem map_set_some {α : Type} (l r : List (Option α)) (W : List α) (o : Nat) (w : α) (ho : o < W.length) (hl : l = W.map some) : (l ++ r).set o (some w) = (W.set o w).map some ++ r := by
  subst hl
  rw [List.set_append_left _ _ (by rw [List.length_map]; exact ho), List.map_set]
/-- only rows have changed, or one is new -/
theorem aw_W (aw : AW E R F W O T S jW jO) (h1 : ∀ (r : Nat) (w : TW), W[r]? = some w → ∃ w', W'[r]? = some w' ∧ w'.1 = w.1) (h2 : wfW W') (h3 : W.length ≤ W'.length) (h4 : S'.1 ≤ 40) (h5 : W'.length ≤ S'.1 + cntW T) (h6 : W'.length + jW' ≤ 440) (h7 : S'.2 = S.2) : AW E R F W' O T S' jW' jO := by
  obtain ⟨a1, a2, a3, a4, a5, b1, b2, b3, b4, b5, b6, b7, b8, b9, b10⟩ := aw
  refine ⟨a1, a2, h2, fun o q hq => ?_, fun l q hq => ?_, by rw [h7]; exact b1, h4, by rw [h7]; exact b3, by rw [h7]; exact b4, by rw [h7]; exact b5, h5, h6, b8, by rw [h7]; exact b9, by rw [h7]; exact b10⟩
  · obtain ⟨rc, y1, y2, y3, y4⟩ := a4 o q hq
    refine ⟨rc, y1, y2, y3, fun p t v ht hv => ?_⟩
    obtain ⟨z1, z2, z3, z4, z5⟩ := y4 p t v ht hv
    refine ⟨z1, z2, z3, fun z => ?_, z5⟩
    rcases z4 z with z4 | ⟨r, w, u1, u2, u3⟩
    · exact Or.inl z4
    · obtain ⟨w', v1, v2⟩ := h1 r w u1
      exact Or.inr ⟨r, w', v1, u2, trivial⟩
  · obtain ⟨y1, y2, y3⟩ := a5 l q hq
    refine ⟨y1, y2, fun p t ht => ?_⟩
    obtain ⟨z1, z2, z3, z4, z5, z6, z7⟩ := y3 p t ht
    refine ⟨z1, z2, z3, z4, z5, z6, ?_⟩
    rcases z7 with z7 | ⟨r, u1, u2⟩
    · exact Or.inl z7
    · exact Or.inr ⟨r, by omega, u2⟩
/-- the model's rows -/
def UW (m : Nat) (M M' : Mem) : Prop := (kd M' = kd M ∧ ln M' = ln M ∧ gR M' = gR M) ∧ (∀ k, k ≠ 793 → gI M' k m = gI M k m) ∧ (∀ i, i ≠ 22 → i ≠ 23 → aI M' (m + i) = aI M (m + i)) ∧ (∀ i, i ≠ 24 → aJ M' (m + i) = aJ M (m + i))
theorem MI.uw {m : Nat} {M' : Mem} (h : MI m E R F W O T S M) (u : UW m M M') (hW : MW m M' W') : MI m E R F W' O T S M' := by
  obtain ⟨h1, h2, h3, h4, h5, h6, h7, h8⟩ := h
  obtain ⟨⟨u1, u2, u3⟩, g, a, b⟩ := u
  exact ⟨⟨by rw [u1]; exact h1.1, fun q hq => by rw [u1, u2, u3]; exact h1.2 q hq⟩, h2.cg (g _ (by omega)) (a _ (by omega) (by omega)) (a _ (by omega) (by omega)) (a _ (by omega) (by omega)) (a _ (by omega) (by omega)) (a _ (by omega) (by omega)) (b _ (by omega)), h3.cg (g _ (by omega)) (a _ (by omega) (by omega)) (a _ (by omega) (by omega)) (a _ (by omega) (by omega)) (a _ (by omega) (by omega)) (a _ (by omega) (by omega)) (a _ (by omega) (by omega)) (a _ (by omega) (by omega)) (b _ (by omega)) (b _ (by omega)) (b _ (by omega)) (b _ (by omega)), h4.cg (g _ (by omega)) (a _ (by omega) (by omega)) (a _ (by omega) (by omega)), hW, h6.cg (g _ (by omega)) (a _ (by omega) (by omega)) (a _ (by omega) (by omega)) (b _ (by omega)), h7.cg (g _ (by omega)) (a _ (by omega) (by omega)) (a _ (by omega) (by omega)) (a _ (by omega) (by omega)) (a _ (by omega) (by omega)) (a _ (by omega) (by omega)) (a _ (by omega) (by omega)) (a _ (by omega) (by omega)) (a _ (by omega) (by omega)) (b _ (by omega)) (b _ (by omega)) (b _ (by omega)), h8.cg (g _ (by omega)) (g _ (by omega)) (g _ (by omega)) (g _ (by omega)) (g _ (by omega)) (g _ (by omega)) (g _ (by omega)) (g _ (by omega)) (g _ (by omega)) (g _ (by omega)) (a _ (by omega) (by omega)) (b _ (by omega))⟩
theorem op_put (h : Inv x E R F W O T S jW jO M) (e f : Int32) (bits : Int64) : Op x W O T jW jO M (fun M => ex 87 6 [pR (some x), pI e, pI f, pJ bits] M) (fun M => ex 192 5 [pR (some (x + 12)), pI e, pI f, pJ bits] M) := by
  obtain ⟨hX, hM, aw⟩ := id h
  obtain ⟨⟨hB, hv, hL⟩, -, -, -, hW, -, -, -⟩ := id hX
  obtain ⟨mB, -, -, -, mW, -, -, -⟩ := id hM
  have hl := mW.2.1
  have hl0 := hW.len0
  rcases oob_or e W.length (by omega) with ho | ⟨o, hk, rfl⟩
  · have c110 := c_rowAt_no hB hW (oobL (by omega) ho)
    refine Op.keep h (v := pI (-1)) ?_ ?_
    · show ex 87 6 [pR (some x), pI e, pI f, pJ bits] M = _
      rw [tX11_put]
      exact rd_i rfl hB.k (clR_i c110 (it_t rfl rfl))
    · show ex 192 5 [pR (some (x + 12)), pI e, pI f, pJ bits] M = _
      rw [tX12_put]
      exact rd_i rfl mB.k (clI_i (m_isRow_no mB mW (by omega) ho) (it_f (not_not_intro rfl) rfl))
  have hq : W[o]? = some W[o] := List.getElem?_eq_getElem hk
  generalize W[o] = w at hq
  obtain ⟨k1, c110, hx1, co⟩ := c_rowAt hB hW hq
  rw [← nI_l (by omega)] at c110
  obtain ⟨y1, y2, y3, y4⟩ := mW.2.2 o w hq
  rcases oob_or f w.2.length (by omega) with ho | ⟨i, hi, rfl⟩
  · refine Op.keep h (v := pI (-15)) ?_ ?_
    · show ex 87 6 [pR (some x), pI (nI o), pI f, pJ bits] M = _
      rw [tX11_put]
      exact rd_i rfl hB.k (clR_i c110 (it_f (fun q => nomatch q) (rd_i rfl co.1 (clI_i (c_hasItem_no co (oobL (by omega) ho)) (it_f (not_not_intro rfl) (clI_i (tX11_answerOf _ _) rfl))))))
    · show ex 192 5 [pR (some (x + 12)), pI (nI o), pI f, pJ bits] M = _
      rw [tX12_put]
      refine rd_i rfl mB.k (clI_i (m_isRow mB mW (by omega) hk) (it_t (by decide) (rd_i rfl mB.k (ix_m mB.a23 rfl (by omega) (by omega) ?_))))
      rw [y3]
      refine clI_i (m_in _ _ _ M) ?_
      rw [inB_no (by omega) ho]
      exact it_f (not_not_intro rfl) rfl
  · have c71 := c_hasItem co hi
    rw [← nI_l (by omega)] at c71
    have f1 : Fr x No No No (fun d => d = k1 + 1) 0 M (wJ M (k1 + 1) i (shp w.1 bits)) := (Fr.rf hv hL).bAJ (Or.inl rfl)
    have hat : (W.map some ++ List.replicate jW none)[o]? = some (some w) := by
      rw [List.getElem?_append_left (by rw [List.length_map]; exact hk), List.getElem?_map, hq]
      rfl
    obtain ⟨u1, u2, u3, u4, u5⟩ := id co
    obtain ⟨v1, v2, v3, v4⟩ := u5 w rfl
    have e31 : ex 87 6 [pR (some x), pI (nI o), pI (nI i), pJ bits] M = some (some (pI 1), wJ M (k1 + 1) i (shp w.1 bits)) := by
      rw [tX11_put]
      refine rd_i rfl hB.k (clR_i c110 (it_f (fun q => nomatch q) (rd_i rfl u1 (clI_i c71 (it_t (by decide) (rd_i rfl u1 (rd_i rfl u1 (clJ_i (c_shaped _ _ _) (ix_i u2 (Or.inl u3) rfl (by omega) (by omega) (bd_i ?_))))))))))
      rw [v1]
    have kn : cW (wJ M (k1 + 1) i (shp w.1 bits)) (some (w.1, w.2.set i (shp w.1 bits))) k1 := by
      refine ⟨u1, u2, u3, u4, fun w' hw' => ?_⟩
      cases hw'
      refine ⟨v1, by rw [List.length_set]; exact v2, by rw [List.length_set]; exact v3, fun j v hj => ?_⟩
      have hj : (w.2.set i (shp w.1 bits))[j]? = some v := hj
      rw [aJ_wJ, up1_at]
      rw [List.getElem?_set] at hj
      by_cases z : i = j
      · subst z
        rw [if_pos rfl, if_pos hi] at hj
        cases hj
        exact up1_at
      · rw [if_neg z] at hj
        rw [up1_no (fun q => z q.symm)]
        exact v4 j v hj
    have hW1 : XW x (wJ M (k1 + 1) i (shp w.1 bits)) (W.set o (w.1, w.2.set i (shp w.1 bits))) jW := by
      obtain ⟨k2, g1, g2, g3, g4, -⟩ := hW.1.at hat
      have ek : k2 = k1 := by
        obtain ⟨k3, h1, h2, h3, -⟩ := hW.1.at hat
        have c2 : ex 110 3 [pR (some x), pJ (nI o).toInt64] M = some (some (pR (some k2)), M) := by
          rw [nI_l (by omega), tX11_rowAt]
          refine it_f (fun z => ?_) (rd_i rfl hB.k (it_f (fun z => ?_) (rd_i rfl hB.k (rd_i hB.r4.1 hB.r4.2 ?_))))
          · have := cmp_lt0.mp z
            rw [I64_lt, lN_toInt (by omega)] at this
            have : (0 : Int64).toInt = 0 := rfl
            omega
          · rw [hW.2, nI_l (by omega), cmp_ge0, lN_le (by omega) (by omega)] at z
            omega
          · rw [lN_i]
            exact clR_i g1 (ck_s rfl g3.1 rfl)
        rw [c110] at c2
        exact (rt_inj c2).symm
      subst ek
      have := g4 (wJ M (k2 + 1) i (shp w.1 bits)) (cW (wJ M (k2 + 1) i (shp w.1 bits))) (some (w.1, w.2.set i (shp w.1 bits))) (f1.ls id) kn (fun q b hne hb hr => hr.fr f1 (fun _ _ => id) (fun q => by omega))
      rw [map_set_some _ _ W o _ hk rfl] at this
      exact ⟨this, by rw [gI_wJ, List.length_set]; exact hW.2⟩
    have hX1 : XI x E R F (W.set o (w.1, w.2.set i (shp w.1 bits))) O T S jW jO (wJ M (k1 + 1) i (shp w.1 bits)) := hX.frW f1 (fun _ q => q.elim) (fun _ q => q.elim) (fun d q => by subst q; exact ⟨by omega, by rw [Nat.add_sub_cancel]; exact u1⟩) hW1
    clear kn hW1
    generalize wJ M (k1 + 1) i (shp w.1 bits) = M1 at f1 e31 hX1
    refine Op.chg (W' := W.set o (w.1, w.2.set i (shp w.1 bits))) (v := pI 1) h (M1 := M1) e31 (f1.mo (n' := 0) (Nat.le_refl _) (fun _ q => q.elim) (fun _ q => q.elim) (fun _ q => q.elim) (fun d q => by omega)) hX1 (fun hM1 => ?_) ?_ (by unfold pot; rw [List.length_set]; omega)
    · obtain ⟨mB1, -, -, -, mW1, -, -, -⟩ := id hM1
      obtain ⟨y1, y2, y3, y4⟩ := mW1.2.2 o w hq
      refine ⟨wJ M1 (x + 12 + 24) (16 * o + i) (shp w.1 bits), ?_, CU.rf.wJ (by omega), hM1.uw ⟨⟨rfl, rfl, rfl⟩, fun _ _ => rfl, fun _ _ _ => rfl, fun j hj => by rw [aJ_wJ, up1_no (by omega)]⟩ ?_⟩
      · show ex 192 5 [pR (some (x + 12)), pI (nI o), pI (nI i), pJ bits] M1 = _
        rw [tX12_put]
        refine rd_i rfl mB1.k (clI_i (m_isRow mB1 mW1 (by omega) hk) (it_t (by decide) (rd_i rfl mB1.k (ix_m mB1.a23 rfl (by omega) (by omega) ?_))))
        rw [y3]
        refine clI_i (m_in _ _ _ M1) ?_
        rw [inB_yes (by omega) hi]
        refine it_t (by decide) (rd_i rfl mB1.k (rd_i rfl mB1.k (ix_m mB1.a22 rfl (by omega) (by omega) (clJ_i (m_shaped _ _ _) (ix_m mB1.a24 (m16 o i) (by omega) (by omega) (bd_i ?_))))))
        rw [y2]
      · refine ⟨by rw [gI_wJ, List.length_set]; exact mW1.1, by rw [List.length_set]; exact mW1.2.1, fun r q hr => ?_⟩
        rw [aI_wJ, aJ_wJ, up1_at]
        rw [List.getElem?_set] at hr
        by_cases z : o = r
        · subst z
          rw [if_pos rfl, if_pos hk] at hr
          cases hr
          refine ⟨by rw [List.length_set]; exact y1, y2, by rw [List.length_set]; exact y3, fun j v hj => ?_⟩
          have hj : (w.2.set i (shp w.1 bits))[j]? = some v := hj
          rw [List.getElem?_set] at hj
          by_cases z : i = j
          · subst z
            rw [if_pos rfl, if_pos hi] at hj
            cases hj
            exact up1_at
          · rw [if_neg z] at hj
            rw [up1_no (fun q => z (by omega))]
            exact y4 j v hj
        · rw [if_neg z] at hr
          obtain ⟨t1, t2, t3, t4⟩ := mW1.2.2 r q hr
          refine ⟨t1, t2, t3, fun j v hj => ?_⟩
          have hjl : j < q.2.length := (List.getElem?_eq_some_iff.mp hj).1
          rw [up1_no (fun q => z (by omega))]
          exact t4 j v hj
    · obtain ⟨b1, b2, b3, b4, b5, b6, b7, -⟩ := aw.2.2.2.2.2
      refine aw_W aw (fun r q hr => ?_) (fun r q hr => ?_) (by rw [List.length_set]; exact Nat.le_refl _) b2 (by rw [List.length_set]; exact b6) (by rw [List.length_set]; exact b7) rfl
      · rw [List.getElem?_set]
        by_cases z : o = r
        · subst z
          rw [if_pos rfl, if_pos hk]
          rw [hq] at hr
          cases hr
          exact ⟨_, rfl, rfl⟩
        · rw [if_neg z]
          exact ⟨q, hr, rfl⟩
      · rw [List.getElem?_set] at hr
        by_cases z : o = r
        · subst z
          rw [if_pos rfl, if_pos hk] at hr
          cases hr
          exact aw.2.2.1 o w hq
        · rw [if_neg z] at hr
          exact aw.2.2.1 r q hr
end OPS
