/-! BUILD: the model, the call -/
section OPS
variable {x : Nat} {E E' : List TE} {R R' : List TR} {F F' : List TF} {W W' : List TW} {O O' : List TO} {T T' : List TL} {S S' : TS} {jW jO jW' jO' n : Nat} {M M' M1 : Mem}
theorem m_b55 {m : Nat} {v : Int32} : ∀ (n i : Nat) (M : Mem), n + i = 14 → MB m M → ∃ g, rn PP 186 55 [some (pR (some m)), some (pI v), some (pI (nI i))] [] M = rn PP 186 76 [some (pR (some m)), some (pI v), some (pI 0)] [] (uI M (m + 19) g) ∧ (∀ j, i ≤ j → j < 14 → g j = 0) ∧ (∀ j, j < i → g j = aI M (m + 19) j) := by
  intro n
  induction n with
  | zero =>
    intro i M hi mB
    refine ⟨aI M (m + 19), ?_, fun j h1 h2 => by omega, fun j _ => rfl⟩
    rw [tX12_build_55, uI_self]
    exact it_t (nI_le (a := 14) (by omega) (by omega)) rfl
  | succ n ih =>
    intro i M hi mB
    obtain ⟨g, e1, e2, e3⟩ := ih (i + 1) (wI M (m + 19) i (0)) (by omega) mB.wI
    have ew : aI (wI M (m + 19) i (0)) (m + 19) = up1 (aI M (m + 19)) i (0) := by rw [aI_wI, up1_at]
    refine ⟨g, ?_, fun j h1 h2 => ?_, fun j hj => ?_⟩
    · rw [tX12_build_55]
      refine it_f (nI_ge (b := 14) (by omega) (by omega)) (rd_i rfl mB.k (ix_m (n := i) mB.a19 rfl (by omega) (by omega) (zo_i (Or.inl rfl) (bd_i ?_))))
      rw [nI_1, e1]
      rw [show wI M (m + 19) i (0) = uI M (m + 19) (up1 (aI M (m + 19)) i (0)) from rfl, uI_uI]
    · by_cases q : j = i
      · subst q
        rw [e3 j (by omega), ew, up1_at]
      · exact e2 j (by omega) h2
    · rw [e3 j (by omega), ew, up1_no (by omega)]
theorem m_b76 {m : Nat} {v : Int32} : ∀ (n i : Nat) (M : Mem), n + i = 4 → MB m M → ∃ g, rn PP 186 76 [some (pR (some m)), some (pI v), some (pI (nI i))] [] M = rn PP 186 96 [some (pR (some m)), some (pI v), some (pI 0)] [] (uI M (m + 20) g) ∧ (∀ j, i ≤ j → j < 4 → g j = 0) ∧ (∀ j, j < i → g j = aI M (m + 20) j) := by
  intro n
  induction n with
  | zero =>
    intro i M hi mB
    refine ⟨aI M (m + 20), ?_, fun j h1 h2 => by omega, fun j _ => rfl⟩
    rw [tX12_build_76, uI_self]
    exact it_t (nI_le (a := 4) (by omega) (by omega)) rfl
  | succ n ih =>
    intro i M hi mB
    obtain ⟨g, e1, e2, e3⟩ := ih (i + 1) (wI M (m + 20) i (0)) (by omega) mB.wI
    have ew : aI (wI M (m + 20) i (0)) (m + 20) = up1 (aI M (m + 20)) i (0) := by rw [aI_wI, up1_at]
    refine ⟨g, ?_, fun j h1 h2 => ?_, fun j hj => ?_⟩
    · rw [tX12_build_76]
      refine it_f (nI_ge (b := 4) (by omega) (by omega)) (rd_i rfl mB.k (ix_m (n := i) mB.a20 rfl (by omega) (by omega) (zo_i (Or.inl rfl) (bd_i ?_))))
      rw [nI_1, e1]
      rw [show wI M (m + 20) i (0) = uI M (m + 20) (up1 (aI M (m + 20)) i (0)) from rfl, uI_uI]
    · by_cases q : j = i
      · subst q
        rw [e3 j (by omega), ew, up1_at]
      · exact e2 j (by omega) h2
    · rw [e3 j (by omega), ew, up1_no (by omega)]
theorem m_b96 {m : Nat} {v : Int32} : ∀ (n i : Nat) (M : Mem), n + i = 64 → MB m M → ∃ g, rn PP 186 96 [some (pR (some m)), some (pI v), some (pI (nI i))] [] M = rn PP 186 117 [some (pR (some m)), some (pI v), some (pI 0)] [] (uI M (m + 40) g) ∧ (∀ j, i ≤ j → j < 64 → g j = -1) ∧ (∀ j, j < i → g j = aI M (m + 40) j) := by
  intro n
  induction n with
  | zero =>
    intro i M hi mB
    refine ⟨aI M (m + 40), ?_, fun j h1 h2 => by omega, fun j _ => rfl⟩
    rw [tX12_build_96, uI_self]
    exact it_t (nI_le (a := 64) (by omega) (by omega)) rfl
  | succ n ih =>
    intro i M hi mB
    obtain ⟨g, e1, e2, e3⟩ := ih (i + 1) (wI M (m + 40) i (-1)) (by omega) mB.wI
    have ew : aI (wI M (m + 40) i (-1)) (m + 40) = up1 (aI M (m + 40)) i (-1) := by rw [aI_wI, up1_at]
    refine ⟨g, ?_, fun j h1 h2 => ?_, fun j hj => ?_⟩
    · rw [tX12_build_96]
      refine it_f (nI_ge (b := 64) (by omega) (by omega)) (rd_i rfl mB.k (ix_m (n := i) mB.a40 rfl (by omega) (by omega) (bd_i ?_)))
      rw [nI_1, e1]
      rw [show wI M (m + 40) i (-1) = uI M (m + 40) (up1 (aI M (m + 40)) i (-1)) from rfl, uI_uI]
    · by_cases q : j = i
      · subst q
        rw [e3 j (by omega), ew, up1_at]
      · exact e2 j (by omega) h2
    · rw [e3 j (by omega), ew, up1_no (by omega)]
theorem m_b117 {m : Nat} {v : Int32} : ∀ (n i : Nat) (M : Mem), n + i = 384 → MB m M → ∃ g, rn PP 186 117 [some (pR (some m)), some (pI v), some (pI (nI i))] [] M = some (some (pI v), uI M (m + 41) g) ∧ (∀ j, i ≤ j → j < 384 → g j = -1) ∧ (∀ j, j < i → g j = aI M (m + 41) j) := by
  intro n
  induction n with
  | zero =>
    intro i M hi mB
    refine ⟨aI M (m + 41), ?_, fun j h1 h2 => by omega, fun j _ => rfl⟩
    rw [tX12_build_117, uI_self]
    exact it_t (nI_le (a := 384) (by omega) (by omega)) rfl
  | succ n ih =>
    intro i M hi mB
    obtain ⟨g, e1, e2, e3⟩ := ih (i + 1) (wI M (m + 41) i (-1)) (by omega) mB.wI
    have ew : aI (wI M (m + 41) i (-1)) (m + 41) = up1 (aI M (m + 41)) i (-1) := by rw [aI_wI, up1_at]
    refine ⟨g, ?_, fun j h1 h2 => ?_, fun j hj => ?_⟩
    · rw [tX12_build_117]
      refine it_f (nI_ge (b := 384) (by omega) (by omega)) (rd_i rfl mB.k (ix_m (n := i) mB.a41 rfl (by omega) (by omega) (bd_i ?_)))
      rw [nI_1, e1]
      rw [show wI M (m + 41) i (-1) = uI M (m + 41) (up1 (aI M (m + 41)) i (-1)) from rfl, uI_uI]
    · by_cases q : j = i
      · subst q
        rw [e3 j (by omega), ew, up1_at]
      · exact e2 j (by omega) h2
    · rw [e3 j (by omega), ew, up1_no (by omega)]
theorem MB.uI {m a : Nat} {f : Nat → Int32} (h : MB m M) : MB m (uI M a f) := h
theorem m_build {m : Nat} (h : MI m E R F W O T S M) (hb : S.2.2.2.2.2.1 < 1000) : ∃ M', ex 186 3 [pR (some m)] M = some (some (pI (nI O.length)), M') ∧ CU m M M' ∧ MI m (E.map rsE) (R.map rsR) F [] [] (T.map rsL) (0, 0, [], S.2.2.2.1, S.2.2.2.2.1, S.2.2.2.2.2.1 + 1, S.2.2.2.2.2.2.1, 0) M' := by
  obtain ⟨mB, mE, mR, mF, mW, mO, mL, mS⟩ := id h
  have cu : CU m M (sI (sI (sI (sI (sI (sI M 790 m (nI S.2.2.2.2.2.1 + 1)) 791 m 0) 792 m 0) 793 m 0) 794 m 0) 798 m 0) := (((((CU.rf.bI (by omega)).bI (by omega)).bI (by omega)).bI (by omega)).bI (by omega)).bI (by omega)
  have gi : GI (fun k a => a = m ∧ (k = 790 ∨ k = 791 ∨ k = 792 ∨ k = 793 ∨ k = 794 ∨ k = 798)) M (sI (sI (sI (sI (sI (sI M 790 m (nI S.2.2.2.2.2.1 + 1)) 791 m 0) 792 m 0) 793 m 0) 794 m 0) 798 m 0) := (((((GI.rf.sI ⟨rfl, by omega⟩).sI ⟨rfl, by omega⟩).sI ⟨rfl, by omega⟩).sI ⟨rfl, by omega⟩).sI ⟨rfl, by omega⟩).sI ⟨rfl, by omega⟩
  have z : (gI (sI (sI (sI (sI (sI (sI M 790 m (nI S.2.2.2.2.2.1 + 1)) 791 m 0) 792 m 0) 793 m 0) 794 m 0) 798 m 0) 790 m = nI S.2.2.2.2.2.1 + 1 ∧ gI (sI (sI (sI (sI (sI (sI M 790 m (nI S.2.2.2.2.2.1 + 1)) 791 m 0) 792 m 0) 793 m 0) 794 m 0) 798 m 0) 791 m = 0 ∧ gI (sI (sI (sI (sI (sI (sI M 790 m (nI S.2.2.2.2.2.1 + 1)) 791 m 0) 792 m 0) 793 m 0) 794 m 0) 798 m 0) 792 m = 0) ∧ gI (sI (sI (sI (sI (sI (sI M 790 m (nI S.2.2.2.2.2.1 + 1)) 791 m 0) 792 m 0) 793 m 0) 794 m 0) 798 m 0) 793 m = 0 ∧ gI (sI (sI (sI (sI (sI (sI M 790 m (nI S.2.2.2.2.2.1 + 1)) 791 m 0) 792 m 0) 793 m 0) 794 m 0) 798 m 0) 794 m = 0 ∧ gI (sI (sI (sI (sI (sI (sI M 790 m (nI S.2.2.2.2.2.1 + 1)) 791 m 0) 792 m 0) 793 m 0) 794 m 0) 798 m 0) 798 m = 0 := by
    simp only [gI_sI]
    simp [up2]
  have run : ∀ {r : Option Rt}, rn PP 186 55 [some (pR (some m)), some (pI (nI O.length)), some (pI 0)] [] (sI (sI (sI (sI (sI (sI M 790 m (nI S.2.2.2.2.2.1 + 1)) 791 m 0) 792 m 0) 793 m 0) 794 m 0) 798 m 0) = r → ex 186 3 [pR (some m)] M = r := fun hr => by
    rw [tX12_build]
    refine rd_i rfl mB.k (it_t (fun q => ?_) (rd_i rfl mB.k (rd_i rfl mB.k (rd_i rfl mB.k (bd_i (rd_i rfl mB.k (bd_i (rd_i rfl mB.k (bd_i (rd_i rfl mB.k (bd_i (rd_i rfl mB.k (bd_i (rd_i rfl mB.k (bd_i ?_)))))))))))))))
    · rw [mS.2.2.2.2.2.2.1] at q
      have := nI_inj (b := 1000) (by omega) (by omega) q
      omega
    · rw [mO.1, mS.2.2.2.2.2.2.1]
      exact hr
  have mBa : MB m (sI (sI (sI (sI (sI (sI M 790 m (nI S.2.2.2.2.2.1 + 1)) 791 m 0) 792 m 0) 793 m 0) 794 m 0) 798 m 0) := mB
  generalize sI (sI (sI (sI (sI (sI M 790 m (nI S.2.2.2.2.2.1 + 1)) 791 m 0) 792 m 0) 793 m 0) 794 m 0) 798 m 0 = Ma at cu gi z run mBa
  obtain ⟨g1, e1, p1, -⟩ := m_b55 (v := nI O.length) 14 0 Ma (by omega) mBa
  obtain ⟨g2, e2, p2, -⟩ := m_b76 (v := nI O.length) 4 0 (uI Ma (m + 19) g1) (by omega) mBa.uI
  obtain ⟨g3, e3, p3, -⟩ := m_b96 (v := nI O.length) 64 0 (uI (uI Ma (m + 19) g1) (m + 20) g2) (by omega) mBa.uI.uI
  obtain ⟨g4, e4, p4, -⟩ := m_b117 (v := nI O.length) 384 0 (uI (uI (uI Ma (m + 19) g1) (m + 20) g2) (m + 40) g3) (by omega) mBa.uI.uI.uI
  have cu4 : CU m M (uI (uI (uI (uI Ma (m + 19) g1) (m + 20) g2) (m + 40) g3) (m + 41) g4) := (((cu.bAI (by omega)).bAI (by omega)).bAI (by omega)).bAI (by omega)
  obtain ⟨⟨a1, a2, a3, a4, a5, a6, a7, a8, a9, a10⟩, b⟩ := gi
  have aJ4 : aJ (uI (uI (uI (uI Ma (m + 19) g1) (m + 20) g2) (m + 40) g3) (m + 41) g4) = aJ M := by rw [aJ_uI, aJ_uI, aJ_uI, aJ_uI]; exact a8
  have gI4 : gI (uI (uI (uI (uI Ma (m + 19) g1) (m + 20) g2) (m + 40) g3) (m + 41) g4) = gI Ma := by rw [gI_uI, gI_uI, gI_uI, gI_uI]
  have aI4 : ∀ i, i ≠ 19 → i ≠ 20 → i ≠ 40 → i ≠ 41 → aI (uI (uI (uI (uI Ma (m + 19) g1) (m + 20) g2) (m + 40) g3) (m + 41) g4) (m + i) = aI M (m + i) := fun i h1 h2 h3 h4 => by
    rw [aI_uI, up1_no (by omega), aI_uI, up1_no (by omega), aI_uI, up1_no (by omega), aI_uI, up1_no (by omega), a7]
  have i19 : aI (uI (uI (uI (uI Ma (m + 19) g1) (m + 20) g2) (m + 40) g3) (m + 41) g4) (m + 19) = g1 := by rw [aI_uI, up1_no (by omega), aI_uI, up1_no (by omega), aI_uI, up1_no (by omega), aI_uI, up1_at]
  have i20 : aI (uI (uI (uI (uI Ma (m + 19) g1) (m + 20) g2) (m + 40) g3) (m + 41) g4) (m + 20) = g2 := by rw [aI_uI, up1_no (by omega), aI_uI, up1_no (by omega), aI_uI, up1_at]
  have i40 : aI (uI (uI (uI (uI Ma (m + 19) g1) (m + 20) g2) (m + 40) g3) (m + 41) g4) (m + 40) = g3 := by rw [aI_uI, up1_no (by omega), aI_uI, up1_at]
  have i41 : aI (uI (uI (uI (uI Ma (m + 19) g1) (m + 20) g2) (m + 40) g3) (m + 41) g4) (m + 41) = g4 := by rw [aI_uI, up1_at]
  have mB4 : MB m (uI (uI (uI (uI Ma (m + 19) g1) (m + 20) g2) (m + 40) g3) (m + 41) g4) := mBa.uI.uI.uI.uI
  have run4 : ex 186 3 [pR (some m)] M = some (some (pI (nI O.length)), uI (uI (uI (uI Ma (m + 19) g1) (m + 20) g2) (m + 40) g3) (m + 41) g4) := by
    refine run ?_
    rw [show (0 : Int32) = nI 0 from rfl, e1, show (0 : Int32) = nI 0 from rfl, e2, show (0 : Int32) = nI 0 from rfl, e3, show (0 : Int32) = nI 0 from rfl, e4]
  clear e1 e2 e3 e4 run
  generalize uI (uI (uI (uI Ma (m + 19) g1) (m + 20) g2) (m + 40) g3) (m + 41) g4 = Mz at cu4 aJ4 gI4 aI4 i19 i20 i40 i41 mB4 run4
  have b : ∀ k, ¬ (k = 790 ∨ k = 791 ∨ k = 792 ∨ k = 793 ∨ k = 794 ∨ k = 798) → gI Mz k m = gI M k m := fun k hk => by rw [gI4]; exact b k m (fun q => hk q.2)
  refine ⟨Mz, run4, cu4, mB4, ?_, ?_, ?_, ?_, ?_, ?_, ?_⟩
  · obtain ⟨y1, y2, y3, y4⟩ := mE
    unfold ME
    rw [b 768 (by omega), aI4 1 (by omega) (by omega) (by omega) (by omega), aI4 3 (by omega) (by omega) (by omega) (by omega), aI4 4 (by omega) (by omega) (by omega) (by omega), i19, i20, aJ4, List.length_map]
    refine ⟨y1, y2, fun e q hq => ?_, fun e he1 he2 => ?_⟩
    · obtain ⟨t, ht, rfl⟩ := rs_at hq
      have he : e < E.length := (List.getElem?_eq_some_iff.mp ht).1
      obtain ⟨z1, z2, z3, z4, z5, z6⟩ := y3 e t ht
      exact ⟨z1, z2, z3, z4, ⟨p1 _ (by omega) (by omega), Or.inl rfl⟩, ⟨p2 _ (by omega) (by omega), Or.inl rfl⟩⟩
    · obtain ⟨z1, z2, z3, z4⟩ := y4 e he1 he2
      exact ⟨z1, z2, p1 _ (by omega) (by omega), p2 _ (by omega) (by omega)⟩
  · obtain ⟨y1, y2, y3, y4⟩ := mR
    unfold MR
    rw [b 773 (by omega), aI4 5 (by omega) (by omega) (by omega) (by omega), aI4 7 (by omega) (by omega) (by omega) (by omega), aI4 8 (by omega) (by omega) (by omega) (by omega), aI4 10 (by omega) (by omega) (by omega) (by omega), aI4 11 (by omega) (by omega) (by omega) (by omega), aI4 12 (by omega) (by omega) (by omega) (by omega), i19, aJ4, List.length_map]
    refine ⟨y1, y2, fun r q hq => ?_, fun r hr1 hr2 => ?_⟩
    · obtain ⟨t, ht, rfl⟩ := rs_at hq
      have he : r < R.length := (List.getElem?_eq_some_iff.mp ht).1
      obtain ⟨z1, z2, z3, z4⟩ := y3 r t ht
      exact ⟨z1, z2, p1 _ (by omega) (by omega), Or.inl rfl⟩
    · obtain ⟨z1, z2, z3⟩ := y4 r hr1 hr2
      exact ⟨z1, z2, p1 _ (by omega) (by omega)⟩
  · exact mF.cg (b _ (by omega)) (aI4 _ (by omega) (by omega) (by omega) (by omega)) (aI4 _ (by omega) (by omega) (by omega) (by omega))
  · exact ⟨by rw [gI4, z.2.1]; rfl, by simp, fun r q hq => by simp at hq⟩
  · exact ⟨by rw [gI4, z.1.2.1]; rfl, by simp, fun r q hq => by simp at hq⟩
  · obtain ⟨y1, y2, y3⟩ := mL
    unfold ML
    rw [b 813 (by omega), aI4 31 (by omega) (by omega) (by omega) (by omega), aI4 32 (by omega) (by omega) (by omega) (by omega), aI4 33 (by omega) (by omega) (by omega) (by omega), aI4 35 (by omega) (by omega) (by omega) (by omega), aI4 36 (by omega) (by omega) (by omega) (by omega), aI4 39 (by omega) (by omega) (by omega) (by omega), i40, i41, aJ4, List.length_map]
    refine ⟨y1, y2, fun l q hq => ?_⟩
    obtain ⟨t, ht, rfl⟩ := rs_at hq
    have hl : l < T.length := (List.getElem?_eq_some_iff.mp ht).1
    obtain ⟨z1, z2, z3, z4, z5, z6⟩ := y3 l t ht
    have el : (rsL t).2.2.1.length = t.2.2.1.length := List.length_map _
    refine ⟨by rw [el]; exact z1, z2, z3, by rw [el]; exact z4, p3 _ (by omega) (by omega), fun p s hs => ?_⟩
    obtain ⟨u, hu, rfl⟩ := rs_at hs
    have hp : p < t.2.2.1.length := (List.getElem?_eq_some_iff.mp hu).1
    obtain ⟨w1, w2, w3, w4, w5, w6, w7, w8, w9⟩ := z6 p u hu
    exact ⟨w1, w2, w3, w4, w5, w6, w7, w8, p4 _ (by omega) (by omega)⟩
  · obtain ⟨s1, s2, s3, s4, s5, s6, s7, s8⟩ := mS
    refine ⟨by rw [gI4, z.2.2.1]; rfl, by rw [gI4, z.1.2.2]; rfl, by rw [gI4, z.2.2.2]; rfl, fun i c hc => by simp at hc, fun i hi => by rw [aJ4]; exact s5 i hi, ⟨by rw [b _ (by omega)]; exact s6.1, by rw [b _ (by omega)]; exact s6.2.1, by rw [b _ (by omega)]; exact s6.2.2.1, by rw [b _ (by omega)]; exact s6.2.2.2.1, by rw [b _ (by omega)]; exact s6.2.2.2.2⟩, by rw [gI4, z.1.1]; exact nI_1 _, by rw [b _ (by omega)]; exact s8⟩
theorem cnt0 {α : Type} {f : α → α} {p : α → Bool} (h : ∀ q, p (f q) = false) (l : List α) : ((l.map f).filter p).length = 0 := by
  rw [List.length_eq_zero_iff, List.filter_eq_nil_iff]
  intro a ha
  obtain ⟨q, -, rfl⟩ := List.mem_map.mp ha
  rw [h q]
  simp
theorem aw_build (aw : AW E R F W O T S jW jO) (hb : S.2.2.2.2.2.1 < 1000) : AW (E.map rsE) (R.map rsR) F [] [] (T.map rsL) (0, 0, [], S.2.2.2.1, S.2.2.2.2.1, S.2.2.2.2.2.1 + 1, S.2.2.2.2.2.2.1, 0) (W.length + jW) (O.length + jO) := by
  obtain ⟨a1, a2, a3, a4, a5, b1, b2, b3, b4, b5, b6, b7, b8, b9, b10⟩ := aw
  refine ⟨fun r q hq => ?_, by rw [List.length_map]; exact a2, fun r w hw => by simp at hw, wfO.nil, fun l q hq => ?_, ?_, Nat.zero_le _, Nat.zero_le _, by show S.2.2.2.2.2.1 + 1 ≤ 1000; omega, ?_, Nat.zero_le _, by show [].length + (W.length + jW) ≤ 440; simp; omega, by show [].length + (O.length + jO) ≤ 164; simp; omega, Nat.le_refl _, fun i q hi => absurd hi (Nat.not_lt_zero _)⟩
  · obtain ⟨t, ht, rfl⟩ := rs_at hq
    rw [List.length_map]
    exact a1 r t ht
  · obtain ⟨t, ht, rfl⟩ := rs_at hq
    rw [List.length_map]
    obtain ⟨y1, y2, y3⟩ := a5 l t ht
    refine ⟨y1, Or.inl rfl, fun p s hs => ?_⟩
    obtain ⟨u, hu, rfl⟩ := rs_at hs
    obtain ⟨z1, z2, z3, z4, z5, z6, z7⟩ := y3 p u hu
    exact ⟨z1, z2, z3, z4, z5, z6, Or.inl rfl⟩
  · show 0 = cntE (E.map rsE) + cntR (R.map rsR)
    unfold cntE cntR
    rw [cnt0 (fun q => rfl), cnt0 (fun q => rfl)]
  · show 0 = 0 + cntL (T.map rsL)
    unfold cntL
    rw [cnt0 (fun q => rfl)]
theorem op_build (h : Inv x E R F W O T S jW jO M) : Op x W O T jW jO M (fun M => ex 85 3 [pR (some x)] M) (fun M => ex 186 3 [pR (some (x + 12))] M) := by
  obtain ⟨hX, hM, aw⟩ := id h
  obtain ⟨⟨hB, hv, hL⟩, -, -, -, -, -, -, hS⟩ := id hX
  obtain ⟨mB, -, -, -, -, -, -, mS⟩ := id hM
  have b4 := aw.2.2.2.2.2.2.2.2.1
  by_cases hb : S.2.2.2.2.2.1 = 1000
  · refine Op.keep h (v := pI (-3)) ?_ ?_
    · show ex 85 3 [pR (some x)] M = _
      rw [tX11_build]
      refine rd_i rfl hB.k (it_f ?_ rfl)
      rw [hS.2.2.2.2.2.2.1, hb]
      decide
    · show ex 186 3 [pR (some (x + 12))] M = _
      rw [tX12_build]
      refine rd_i rfl mB.k (it_f (not_not_intro ?_) rfl)
      rw [mS.2.2.2.2.2.2.1, hb]
      rfl
  · obtain ⟨M1, e1, hX1, f1⟩ := c_build hX (by omega)
    refine Op.chg (v := pI (nI O.length)) h e1 (f1.mo (n' := 0) (Nat.le_refl _) (fun _ => id) (fun _ q => q.elim) (fun _ q => q.elim) (fun _ q => q.elim)) hX1 (fun hM1 => ?_) (aw_build aw (by omega)) ?_
    · obtain ⟨M2, e2, cu, hM2⟩ := m_build hM1 (by omega)
      exact ⟨M2, e2, cu, hM2⟩
    · unfold pot
      rw [List.length_map]
      show 0 + 64 * (W.length + jW + O.length + jO + T.length) ≤ 64 * ([].length + (W.length + jW) + [].length + (O.length + jO) + T.length + 1)
      simp only [List.length_nil]
      omega
end OPS
