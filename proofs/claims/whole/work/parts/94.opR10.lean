/-! CALLS on records: without -/
def ShP (m k c i : Nat) (M0 M : Mem) : Prop := MB m M ∧ CU m M0 M ∧ UR m M0 M ∧ gI M 773 m = gI M0 773 m ∧ (∀ j, j ∈ [5, 10, 11, 12, 19] → aI M (m + j) = aI M0 (m + j)) ∧ (∀ j, j ∈ [13, 14] → aJ M (m + j) = aJ M0 (m + j)) ∧ aJ M (m + 6) = shf (aJ M0 (m + 6)) (6 * k + c) (6 * k + i) ∧ aI M (m + 7) = shf (aI M0 (m + 7)) (6 * k + c) (6 * k + i) ∧ aI M (m + 8) = shf (aI M0 (m + 8)) (6 * k + c) (6 * k + i) ∧ aJ M (m + 9) = shf (aJ M0 (m + 9)) (6 * k + c) (6 * k + i)
theorem m_without_loop {m k c len : Nat} {M0 : Mem} (hk : k < 6) (hlen : len < 6) (hn : aI M0 (m + 5) k = nI len) : ∀ (n i : Nat) (M : Mem), n + i = len → c ≤ i → ShP m k c i M0 M → ∃ M', rn PP 182 40 [some (pR (some m)), some (pI (nI k)), none, some (pI (nI i)), none] [] M = some (some (pI (nI len)), M') ∧ ShP m k c len M0 M' := by
  intro n
  induction n with
  | zero =>
    intro i M hi hci hS
    have hi : i = len := by omega
    subst hi
    obtain ⟨mB, s⟩ := id hS
    refine ⟨M, ?_, hS⟩
    have hg : aI M (m + 5) k = nI i := by rw [s.2.2.2.1 5 (by decide)]; exact hn
    rw [tX12_without_40]
    refine rd_i rfl mB.k (ix_m mB.a5 rfl (by omega) (by omega) ?_)
    rw [hg]
    refine it_t (nI_le (Nat.le_refl _) (by omega)) (rd_i rfl mB.k (ix_m mB.a5 rfl (by omega) (by omega) ?_))
    rw [hg]
  | succ n ih =>
    intro i M hi hci hS
    obtain ⟨mB, cu, ur, s1, s2, s3, s4, s5, s6, s7⟩ := id hS
    have hg : aI M (m + 5) k = nI len := by rw [s2 5 (by decide)]; exact hn
    have m61 : (6 : Int32) * nI k + nI i + 1 = nI (6 * k + (i + 1)) := by rw [m6, nI_1]; rfl
    have hS2 : ShP m k c (i + 1) M0 (wJ (wI (wI (wJ M (m + 6) (6 * k + i) (aJ M (m + 6) (6 * k + (i + 1)))) (m + 7) (6 * k + i) (aI M (m + 7) (6 * k + (i + 1)))) (m + 8) (6 * k + i) (aI M (m + 8) (6 * k + (i + 1)))) (m + 9) (6 * k + i) (aJ M (m + 9) (6 * k + (i + 1)))) := by
      refine ⟨mB.wJ.wI.wI.wJ, (((cu.wJ (by omega)).wI (by omega)).wI (by omega)).wJ (by omega), (((ur.wJ (by omega)).wI (by omega)).wI (by omega)).wJ (by omega), by simp only [gI_wI, gI_wJ]; exact s1, fun j hj => ?_, fun j hj => ?_, ?_, ?_, ?_, ?_⟩
      · have : ∀ j ∈ [5, 10, 11, 12, 19], j ≠ 7 ∧ j ≠ 8 := by decide
        have := this j hj
        simp only [aI_wI, aI_wJ]; rw [up1_no (by omega), up1_no (by omega)]; exact s2 j hj
      · have : ∀ j ∈ [13, 14], j ≠ 6 ∧ j ≠ 9 := by decide
        have := this j hj
        simp only [aJ_wI, aJ_wJ]; rw [up1_no (by omega), up1_no (by omega)]; exact s3 j hj
      · simp only [aJ_wI, aJ_wJ]; rw [up1_no (by omega), up1_at, s4]; exact shf_s _ (by omega)
      · simp only [aI_wI, aI_wJ]; rw [up1_no (by omega), up1_at, s5]; exact shf_s _ (by omega)
      · simp only [aI_wI, aI_wJ]; rw [up1_at, up1_no (by omega), s6]; exact shf_s _ (by omega)
      · simp only [aJ_wI, aJ_wJ]; rw [up1_at, up1_no (by omega), s7]; exact shf_s _ (by omega)
    obtain ⟨M', e1, e2⟩ := ih (i + 1) _ (by omega) (by omega) hS2
    refine ⟨M', ?_, e2⟩
    rw [tX12_without_40]
    refine rd_i rfl mB.k (ix_m mB.a5 rfl (by omega) (by omega) ?_)
    rw [hg]
    refine it_f (nI_ge (by omega) (by omega)) (rd_i rfl mB.k (rd_i rfl mB.k (ix_m mB.a6 m61 (by omega) (by omega) (ix_m mB.a6 (m6 k i) (by omega) (by omega) (bd_i ?_)))))
    have mB2 : MB m (wJ M (m + 6) (6 * k + i) (aJ M (m + 6) (6 * k + (i + 1)))) := mB.wJ
    have r7 : aI (wJ M (m + 6) (6 * k + i) (aJ M (m + 6) (6 * k + (i + 1)))) (m + 7) (6 * k + (i + 1)) = aI M (m + 7) (6 * k + (i + 1)) := by rw [aI_wJ]
    have r8 : aI (wJ M (m + 6) (6 * k + i) (aJ M (m + 6) (6 * k + (i + 1)))) (m + 8) (6 * k + (i + 1)) = aI M (m + 8) (6 * k + (i + 1)) := by rw [aI_wJ]
    have r9 : aJ (wJ M (m + 6) (6 * k + i) (aJ M (m + 6) (6 * k + (i + 1)))) (m + 9) (6 * k + (i + 1)) = aJ M (m + 9) (6 * k + (i + 1)) := by rw [aJ_wJ, up1_no (by omega)]
    generalize wJ M (m + 6) (6 * k + i) (aJ M (m + 6) (6 * k + (i + 1))) = M2 at mB2 r7 r8 r9 e1 ⊢
    refine rd_i rfl mB2.k (rd_i rfl mB2.k (ix_m mB2.a7 m61 (by omega) (by omega) (ix_m mB2.a7 (m6 k i) (by omega) (by omega) (bd_i ?_))))
    rw [r7]
    have mB3 : MB m (wI M2 (m + 7) (6 * k + i) (aI M (m + 7) (6 * k + (i + 1)))) := mB2.wI
    have r8 : aI (wI M2 (m + 7) (6 * k + i) (aI M (m + 7) (6 * k + (i + 1)))) (m + 8) (6 * k + (i + 1)) = aI M (m + 8) (6 * k + (i + 1)) := by rw [aI_wI, up1_no (by omega)]; exact r8
    have r9 : aJ (wI M2 (m + 7) (6 * k + i) (aI M (m + 7) (6 * k + (i + 1)))) (m + 9) (6 * k + (i + 1)) = aJ M (m + 9) (6 * k + (i + 1)) := by rw [aJ_wI]; exact r9
    generalize wI M2 (m + 7) (6 * k + i) (aI M (m + 7) (6 * k + (i + 1))) = M3 at mB3 r8 r9 e1 ⊢
    refine rd_i rfl mB3.k (rd_i rfl mB3.k (ix_m mB3.a8 m61 (by omega) (by omega) (ix_m mB3.a8 (m6 k i) (by omega) (by omega) (bd_i ?_))))
    rw [r8]
    have mB4 : MB m (wI M3 (m + 8) (6 * k + i) (aI M (m + 8) (6 * k + (i + 1)))) := mB3.wI
    have r9 : aJ (wI M3 (m + 8) (6 * k + i) (aI M (m + 8) (6 * k + (i + 1)))) (m + 9) (6 * k + (i + 1)) = aJ M (m + 9) (6 * k + (i + 1)) := by rw [aJ_wI]; exact r9
    generalize wI M3 (m + 8) (6 * k + i) (aI M (m + 8) (6 * k + (i + 1))) = M4 at mB4 r9 e1 ⊢
    refine rd_i rfl mB4.k (rd_i rfl mB4.k (ix_m mB4.a9 m61 (by omega) (by omega) (ix_m mB4.a9 (m6 k i) (by omega) (by omega) (bd_i ?_))))
    rw [r9, nI_1]
    exact e1
section OPR
variable {x : Nat} {E E' : List TE} {R R' : List TR} {F F' : List TF} {W W' : List TW} {O O' : List TO} {T T' : List TL} {S S' : TS} {jW jO jW' jO' n : Nat} {M M1 : Mem}
theorem m_without {m k p : Nat} {q : TR} (hM : MI m E R F W [] T S M) (hq : R[k]? = some q) (hp : p < q.1.length) (hcs : ∀ c ∈ q.2.1, c.1 < 2147483648) : ∃ M2, ex 182 5 [pR (some m), pI (nI k), pI (nI p)] M = some (some (pI (nI (q.1.length - 1))), M2) ∧ CU m M M2 ∧ MI m E (R.set k (q.1.eraseIdx p, prK p true q.2.1, q.2.2)) F W [] T S M2 := by
  obtain ⟨mB, mE, mR, mF, -, mO, -, -⟩ := id hM
  have hRl := mR.2.1
  have hk : k < R.length := (List.getElem?_eq_some_iff.mp hq).1
  obtain ⟨⟨z1, z2, z3⟩, -⟩ := mR.2.2.1 k q hq
  have d1 := (mb0 mO).mpr rfl
  obtain ⟨M1, e1, u1, hM1⟩ := m_drop (g := true) (p := p) hM hq (by omega) hcs
  have hq1 : (R.set k (q.1, prK p true q.2.1, q.2.2))[k]? = some (q.1, prK p true q.2.1, q.2.2) := by rw [List.getElem?_set, if_pos rfl, if_pos hk]
  obtain ⟨mB1, -, mR1, -⟩ := id hM1
  obtain ⟨⟨y1, y2, y3⟩, ⟨y4, y5, y6⟩, y7, y8⟩ := mR1.2.2.1 k _ hq1
  have hlen : (q.1.eraseIdx p).length = q.1.length - 1 := List.length_eraseIdx_of_lt hp
  have hs1 : nI q.1.length - 1 = nI (q.1.length - 1) := nI_sub (b := 1) (by omega)
  have cu0 : CU m M1 (wI M1 (m + 5) k (nI (q.1.length - 1))) := CU.rf.wI (by omega)
  have ur0 : UR m M1 (wI M1 (m + 5) k (nI (q.1.length - 1))) := UR.rf.wI (by omega)
  have mB0 : MB m (wI M1 (m + 5) k (nI (q.1.length - 1))) := mB1.wI
  have a0 : aI (wI M1 (m + 5) k (nI (q.1.length - 1))) (m + 5) = up1 (aI M1 (m + 5)) k (nI (q.1.length - 1)) := by rw [aI_wI, up1_at]
  have a0' : ∀ i, i ≠ 5 → aI (wI M1 (m + 5) k (nI (q.1.length - 1))) (m + i) = aI M1 (m + i) := fun i hi => a_ne (i := i) (j := 5) hi
  have j0 : ∀ i, aJ (wI M1 (m + 5) k (nI (q.1.length - 1))) (m + i) = aJ M1 (m + i) := fun i => by rw [aJ_wI]
  have g0 : gI (wI M1 (m + 5) k (nI (q.1.length - 1))) 773 m = gI M1 773 m := by rw [gI_wI]
  have run0 : ∀ M' v, rn PP 182 40 [some (pR (some m)), some (pI (nI k)), none, some (pI (nI p)), none] [] (wI M1 (m + 5) k (nI (q.1.length - 1))) = some (some (pI v), M') → ex 182 5 [pR (some m), pI (nI k), pI (nI p)] M = some (some (pI v), M') := by
    intro M' v hr
    rw [tX12_without]
    refine rd_i rfl mB.k (clI_i (m_isPart mB mR hq hp) (it_t (by decide) (rd_i rfl mB.k (it_t d1 (rd_i rfl mB.k (clV_i e1 (rd_i rfl mB1.k (ix_m mB1.a5 rfl (by omega) (by omega) (ix_m mB1.a5 rfl (by omega) (by omega) (bd_i ?_))))))))))
    rw [y2, hs1]
    exact hr
  generalize wI M1 (m + 5) k (nI (q.1.length - 1)) = M0 at cu0 ur0 mB0 a0 a0' j0 g0 run0
  obtain ⟨M2, e2, s⟩ := m_without_loop (m := m) (k := k) (c := p) (len := q.1.length - 1) (M0 := M0) (by omega) (by omega) (by rw [a0, up1_at]) (q.1.length - 1 - p) p M0 (by omega) (Nat.le_refl _) ⟨mB0, CU.rf, UR.rf, rfl, fun _ _ => rfl, fun _ _ => rfl, (shf_0 _ _).symm, (shf_0 _ _).symm, (shf_0 _ _).symm, (shf_0 _ _).symm⟩
  obtain ⟨s0, s1, s2, s3, s4, s5, s6, s7, s8, s9⟩ := s
  have b5 : aI M2 (m + 5) = up1 (aI M1 (m + 5)) k (nI (q.1.length - 1)) := by rw [s4 5 (by decide), a0]
  have b10 : aI M2 (m + 10) = aI M1 (m + 10) := by rw [s4 10 (by decide), a0' 10 (by omega)]
  have b11 : aI M2 (m + 11) = aI M1 (m + 11) := by rw [s4 11 (by decide), a0' 11 (by omega)]
  have b12 : aI M2 (m + 12) = aI M1 (m + 12) := by rw [s4 12 (by decide), a0' 12 (by omega)]
  have b19 : aI M2 (m + 19) = aI M1 (m + 19) := by rw [s4 19 (by decide), a0' 19 (by omega)]
  have b13 : aJ M2 (m + 13) = aJ M1 (m + 13) := by rw [s5 13 (by decide), j0]
  have b14 : aJ M2 (m + 14) = aJ M1 (m + 14) := by rw [s5 14 (by decide), j0]
  rw [j0] at s6 s9
  rw [a0' 7 (by omega)] at s7
  rw [a0' 8 (by omega)] at s8
  have hMR : MR m M2 ((R.set k (q.1, prK p true q.2.1, q.2.2)).set k (q.1.eraseIdx p, prK p true q.2.1, q.2.2)) := by
    refine MR_set mR1 hq1 (s3.trans g0) ⟨⟨by rw [hlen]; omega, by rw [b5, up1_at, hlen], fun t r hr => ?_⟩, ⟨y4, by rw [b10]; exact y5, fun c r hr => by rw [b11, b12, b13, b14]; exact y6 c r hr⟩, by rw [b19]; exact y7, y8⟩ (fun e he => ⟨by rw [b5, up1_no he], by rw [b10], fun _ => by rw [b19], fun t ht => ?_, fun c hc => by rw [b11, b12, b13, b14]; exact ⟨rfl, rfl, rfl, rfl⟩⟩)
    · have htl : t < (q.1.eraseIdx p).length := (List.getElem?_eq_some_iff.mp hr).1
      rw [List.getElem?_eraseIdx] at hr
      rw [s6, s7, s8, s9]
      unfold shf
      by_cases e : t < p
      · rw [if_pos e] at hr
        rw [if_neg (by omega), if_neg (by omega), if_neg (by omega), if_neg (by omega)]
        exact y3 t r hr
      · rw [if_neg e] at hr
        rw [if_pos (by omega), if_pos (by omega), if_pos (by omega), if_pos (by omega)]
        exact y3 (t + 1) r hr
    · rw [s6, s7, s8, s9]
      unfold shf
      rw [if_neg (by omega), if_neg (by omega), if_neg (by omega), if_neg (by omega)]
      exact ⟨rfl, rfl, rfl, rfl⟩
  rw [List.set_set] at hMR
  exact ⟨M2, run0 _ _ e2, (u1.tr cu0).tr s1, hM1.ur (ur0.tr s2) hMR⟩
theorem op_without (h : Inv x E R F W O T S jW jO M) (e p : Int32) : Op x W O T jW jO M (fun M => ex 82 4 [pR (some x), pI e, pI p] M) (fun M => ex 182 5 [pR (some (x + 12)), pI e, pI p] M) := by
  obtain ⟨hX, hM, aw⟩ := id h
  obtain ⟨⟨hB, hv, hL⟩, hE, hR, hF, -, hO, -, -⟩ := id hX
  obtain ⟨mB, mE, mR, mF, -, mO, -, -⟩ := id hM
  have hRl := mR.2.1
  rcases oob_or e R.length (by omega) with ho | ⟨k, hk, rfl⟩
  · refine Op.keep h (v := pI (-1)) ?_ ?_
    · show ex 82 4 [pR (some x), pI e, pI p] M = _
      rw [tX11_without]
      exact rd_i rfl hB.k (clR_i (c_recAt_no hB hR ho) (it_t rfl rfl))
    · show ex 182 5 [pR (some (x + 12)), pI e, pI p] M = _
      rw [tX12_without]
      exact rd_i rfl mB.k (clI_i (m_isPart_no0 mB mR ho) (it_f (not_not_intro rfl) rfl))
  have hq : R[k]? = some R[k] := List.getElem?_eq_getElem hk
  generalize R[k] = q at hq
  obtain ⟨a, c108, hxa, hc, hcl, -⟩ := c_recAt hB hR hq
  obtain ⟨⟨z1, z2, z3⟩, ⟨z4, z5, z6⟩, z7⟩ := mR.2.2.1 k q hq
  rcases oob_or p q.1.length (by omega) with hp | ⟨j, hj, rfl⟩
  · refine Op.keep h (v := pI (-1)) ?_ ?_
    · show ex 82 4 [pR (some x), pI (nI k), pI p] M = _
      rw [tX11_without]
      exact rd_i rfl hB.k (clR_i c108 (it_f (fun q => nomatch q) (rd_i rfl hc.1 (clR_i (c_partAt_no hc hp) (it_t rfl rfl)))))
    · show ex 182 5 [pR (some (x + 12)), pI (nI k), pI p] M = _
      rw [tX12_without]
      exact rd_i rfl mB.k (clI_i (m_isPart_no mB mR hq hp) (it_f (not_not_intro rfl) rfl))
  obtain ⟨kp, c65, hkx, hcp, -⟩ := c_partAt hc (List.getElem?_eq_getElem hj)
  have hcs : ∀ c ∈ q.2.1, c.1 < q.1.length := fun c hcm => by
    obtain ⟨i, hi⟩ := List.getElem?_of_mem hcm
    obtain ⟨t', w1, -⟩ := (aw.1 k q hq).2 i c hi
    exact (List.getElem?_eq_some_iff.mp w1).1
  by_cases ho : O = []
  · have c0 := (ob0 hO).mpr ho
    obtain ⟨M8, e67, cR8, f1⟩ := c_dropChecks (p := j) hc hv hL (by omega) (fun c hm => by have := hcs c hm; omega)
    obtain ⟨v, M11, e20, lm, v11, t11, s11, lP1⟩ := cR8.2.2.2.2.1.erase0 f1.v f1.li hj
    have f2 : Fr x No (fun l => l = a + 1) No No 0 M8 M11 := (Fr.rf f1.v f1.li).bL0 lm v11 (Or.inl rfl) t11 s11
    have ha8 := lt_of_kd f1.v cR8.1 (by omega)
    have cR11 : cR x M11 (q.1.eraseIdx j, q.2.1.filter (fun c => decide (c.1 ≠ j)), q.2.2) a := by
      obtain ⟨d1, d2, d3, d4, d5, d6⟩ := cR8
      exact ⟨by rw [f2.fk ha8]; exact d1, by rw [f2.fR (by omega) ha8 id]; exact d2, by rw [f2.fR (by omega) ha8 id]; exact d3, by rw [f2.fI (by omega) ha8 id]; exact d4, lP1 _ (fun r b _ z => z.fr f2 (fun _ _ => id)), d6.mono (f2.ls (fun q => by omega)) (fun r b _ z => z.fr f2 (fun _ _ => id))⟩
    obtain ⟨M14, e68, cR14, f3, o3⟩ := c_moveChecks (p := j) cR11 f2.v f2.li (by omega) (fun c hm => by have := hcs c (List.mem_filter.mp hm).1; omega)
    have fT : Fr x (fun k => k = 64) (fun l => l = a + 1 ∨ l = a + 2) No No 0 M M14 := ((f1.mo (K' := fun k => k = 64) (L' := fun l => l = a + 1 ∨ l = a + 2) (Nat.le_refl _) (fun _ q => q.elim) (fun _ => Or.inr) (fun _ => id) (fun _ => id)).tr (f2.mo (Nat.le_refl _) (fun _ q => q.elim) (fun _ => Or.inl) (fun _ => id) (fun _ => id))).tr (f3.mo (Nat.le_refl _) (fun _ => id) (fun _ q => q.elim) (fun _ => id) (fun _ => id))
    -- the others' checks are other objects
    have hR1 : XR x M14 (R.set k (q.1.eraseIdx j, (q.2.1.filter (fun c => decide (c.1 ≠ j))).map (mvK j), q.2.2)) := by
      have f12 : Fr x No (fun l => l = a + 1 ∨ l = a + 2) No No 0 M M11 := (f1.mo (L' := fun l => l = a + 1 ∨ l = a + 2) (Nat.le_refl _) (fun _ => id) (fun _ => Or.inr) (fun _ => id) (fun _ => id)).tr (f2.mo (Nat.le_refl _) (fun _ => id) (fun _ => Or.inl) (fun _ => id) (fun _ => id))
      refine hcl M14 _ (fT.ls (fun q => by omega)) cR14 (fun r b hne hb hr => ?_)
      have hr1 : cR x M11 r b := by
        refine hr.fr f12 (fun _ _ => id) ⟨fun q => ?_, fun q => ?_⟩
        · rcases q with q | q
          · omega
          · have : b = a + 1 := by omega
            rw [this] at hr
            have := hr.1
            have := hc.2.2.2.2.1.k
            omega
        · rcases q with q | q
          · have := hr.2.2.2.2.1.k
            rw [show b + 1 = a by omega] at this
            have := hc.1
            omega
          · omega
      obtain ⟨y1, y2, y3, y4, y5, y6⟩ := hr1
      have hlb := lt_of_kd f2.v y1 (by omega)
      refine ⟨by rw [f3.fk hlb]; exact y1, by rw [f3.fR (by omega) hlb (by decide)]; exact y2, by rw [f3.fR (by omega) hlb (by decide)]; exact y3, by rw [f3.fI (by omega) hlb (by decide)]; exact y4, y5.mono (f3.ls id) (fun r c _ h => h.fr f3 (by decide)), y6.mono' (f3.ls id) (fun r c _ hin h => ?_)⟩
      obtain ⟨u1, u2, u3, u4, u5⟩ := h
      have hlc := lt_of_kd f2.v u1 (by omega)
      have hno : ¬ inL M11 (a + 2) c := by
        intro hin'
        obtain ⟨k1, d1, j1, p1, p2, p3⟩ := hin
        obtain ⟨k2, d2, j2, q1, q2, q3⟩ := hin'
        have hd := f2.li.2.2 _ _ _ _ _ _ _ k1 k2 p1 q1 p2 q2 p3 q3 u1
        subst hd
        have := f2.li.2.1 _ _ _ k1 k2 p1 q1 p2
        omega
      exact ⟨by rw [f3.fk hlc]; exact u1, by rw [o3 c hno]; exact u2, by rw [f3.fI (by omega) hlc (by decide)]; exact u3, by rw [f3.fJ (by omega) hlc (by decide)]; exact u4, by rw [f3.fJ (by omega) hlc (by decide)]; exact u5⟩
    have hX1 := hX.frR fT (fun k q => by omega) (fun l q => Or.inr ⟨by omega, by rcases q with q | q; exact Or.inl (by rw [q, Nat.add_sub_cancel]; exact hc.1); exact Or.inr ⟨by rw [q, Nat.add_sub_cancel]; exact hc.1, by rw [q, show a + 2 - 1 = a + 1 by omega]; exact hc.2.2.2.2.1.k⟩⟩) hR1
    refine Op.chg (R' := R.set k (q.1.eraseIdx j, (q.2.1.filter (fun c => decide (c.1 ≠ j))).map (mvK j), q.2.2)) (v := pI (nI (q.1.length - 1))) h (M1 := M14) ?_ (fT.mo (n' := 0) (Nat.le_refl _) (fun k q => by subst q; decide) (fun l q => by omega) (fun _ q => q.elim) (fun _ q => q.elim)) hX1 (fun hM1 => ?_) ?_ (by omega)
    · show ex 82 4 [pR (some x), pI (nI k), pI (nI j)] M = _
      rw [tX11_without]
      refine rd_i rfl hB.k (clR_i c108 (it_f (fun q => nomatch q) (rd_i rfl hc.1 (clR_i c65 (it_f (fun q => nomatch q) (rd_i rfl hB.k (it_t c0 (rd_i rfl hc.1 (clV_i e67 (rd_i rfl cR8.1 (rd_i cR8.2.1 cR8.2.2.2.2.1.k (clR_i e20 (rd_i rfl cR11.1 (clV_i e68 (rd_i rfl cR14.1 (rd_i cR14.2.1 cR14.2.2.2.2.1.k (clI_i cR14.2.2.2.2.1.size ?_)))))))))))))))))
      rw [List.length_eraseIdx_of_lt hj]
    · subst ho
      have := m_without hM1 hq hj (fun c hm => by have := hcs c hm; omega)
      rw [prK_t] at this
      exact this
    · subst ho
      refine awR aw (wfR_set aw.1 ⟨fun p' t' ht' => ?_, fun c' t' ht' => ?_⟩) (by rw [List.length_set]; omega) (cntR_set hq rfl)
      · rw [List.getElem?_eraseIdx] at ht'
        split at ht'
        · exact (aw.1 k q hq).1 p' t' ht'
        · exact (aw.1 k q hq).1 (p' + 1) t' ht'
      · have hm := List.mem_of_getElem? ht'
        rw [List.mem_map] at hm
        obtain ⟨c, hm, rfl⟩ := hm
        rw [List.mem_filter] at hm
        obtain ⟨i, hi⟩ := List.getElem?_of_mem hm.1
        obtain ⟨r, w1, w2⟩ := (aw.1 k q hq).2 i c hi
        have hne : c.1 ≠ j := of_decide_eq_true hm.2
        unfold mvK
        by_cases e : j < c.1
        · rw [if_pos e]
          refine ⟨r, ?_, w2⟩
          show (q.1.eraseIdx j)[c.1 - 1]? = some r
          rw [List.getElem?_eraseIdx, if_neg (by omega), show c.1 - 1 + 1 = c.1 by omega]
          exact w1
        · rw [if_neg e]
          refine ⟨r, ?_, w2⟩
          rw [List.getElem?_eraseIdx, if_pos (by omega)]
          exact w1
  · refine Op.keep h (v := pI (-2)) ?_ ?_
    · show ex 82 4 [pR (some x), pI (nI k), pI (nI j)] M = _
      rw [tX11_without]
      exact rd_i rfl hB.k (clR_i c108 (it_f (fun q => nomatch q) (rd_i rfl hc.1 (clR_i c65 (it_f (fun q => nomatch q) (rd_i rfl hB.k (it_f (fun q => ho ((ob0 hO).mp q)) rfl)))))))
    · show ex 182 5 [pR (some (x + 12)), pI (nI k), pI (nI j)] M = _
      rw [tX12_without]
      exact rd_i rfl mB.k (clI_i (m_isPart mB mR hq hj) (it_t (by decide) (rd_i rfl mB.k (it_f (fun q => ho ((mb0 mO).mp q)) rfl))))
end OPR
