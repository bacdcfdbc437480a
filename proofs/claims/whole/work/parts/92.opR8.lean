/-! RECORDS: checks that go or move, in the model -/
/-- what is left of the checks when a part goes (g) or becomes another one -/
def prK (p : Nat) (g : Bool) (l : List TK) : List TK := (l.filter (fun c => decide (c.1 ≠ p))).map (fun c => if g = true then mvK p c else c)
theorem prK_le (p : Nat) (g : Bool) (l : List TK) : (prK p g l).length ≤ l.length := by
  unfold prK
  rw [List.length_map]
  exact List.length_filter_le _ _
theorem prK_app (p : Nat) (g : Bool) (l : List TK) (c : TK) : prK p g (l ++ [c]) = prK p g l ++ (if c.1 = p then [] else [if g = true then mvK p c else c]) := by
  unfold prK
  rw [List.filter_append, List.map_append]
  congr 1
  by_cases h : c.1 = p
  · rw [if_pos h, List.filter_cons_of_neg (by simp [h])]; rfl
  · rw [if_neg h, List.filter_cons_of_pos (by simp [h])]; rfl
def ShK (m k p : Nat) (g : Bool) (cs : List TK) (i : Nat) (M0 M : Mem) : Prop := MB m M ∧ CU m M0 M ∧ UR m M0 M ∧ gI M 773 m = gI M0 773 m ∧ (∀ j, j ∈ [5, 7, 8, 10, 19] → aI M (m + j) = aI M0 (m + j)) ∧ (∀ j, j ∈ [6, 9] → aJ M (m + j) = aJ M0 (m + j)) ∧
  (∀ J, ¬ (4 * k ≤ J ∧ J < 4 * k + (prK p g (cs.take i)).length) → aI M (m + 11) J = aI M0 (m + 11) J ∧ aI M (m + 12) J = aI M0 (m + 12) J ∧ aJ M (m + 13) J = aJ M0 (m + 13) J ∧ aJ M (m + 14) J = aJ M0 (m + 14) J) ∧
  (∀ (c : Nat) (t : TK), (prK p g (cs.take i))[c]? = some t → aI M (m + 11) (4 * k + c) = nI t.1 ∧ aI M (m + 12) (4 * k + c) = t.2.1 ∧ aJ M (m + 13) (4 * k + c) = t.2.2.1 ∧ aJ M (m + 14) (4 * k + c) = t.2.2.2)
theorem ShK_step {m k p : Nat} {g : Bool} {cs : List TK} {i : Nat} {M0 M : Mem} {c : TK} {J : Nat} {v : Int32} (h : ShK m k p g cs i M0 M) (hc : cs[i]? = some c) (hcp : ¬ c.1 = p) (hJ : J = 4 * k + (prK p g (cs.take i)).length) (hv : v = nI (if g = true then mvK p c else c).1) : ShK m k p g cs (i + 1) M0 (wJ (wJ (wI (wI M (m + 11) J v) (m + 12) J c.2.1) (m + 13) J c.2.2.1) (m + 14) J c.2.2.2) := by
  obtain ⟨s0, s1, s2, s3, s4, s5, s6, s7⟩ := h
  have ht : cs.take (i + 1) = cs.take i ++ [c] := by rw [List.take_succ, hc]; rfl
  have hpr : prK p g (cs.take (i + 1)) = prK p g (cs.take i) ++ [if g = true then mvK p c else c] := by rw [ht, prK_app, if_neg hcp]
  have hc2 : (if g = true then mvK p c else c).2 = c.2 := by
    split
    · unfold mvK; split <;> rfl
    · rfl
  refine ⟨s0.wI.wI.wJ.wJ, (((s1.wI (by omega)).wI (by omega)).wJ (by omega)).wJ (by omega), (((s2.wI (by omega)).wI (by omega)).wJ (by omega)).wJ (by omega), by simp only [gI_wJ, gI_wI]; exact s3, fun j hj => ?_, fun j hj => ?_, fun J' hJ' => ?_, fun d t hd => ?_⟩
  · have : ∀ j ∈ [5, 7, 8, 10, 19], j ≠ 11 ∧ j ≠ 12 := by decide
    have := this j hj
    simp only [aI_wJ, aI_wI]
    rw [up1_no (by omega), up1_no (by omega)]
    exact s4 j hj
  · have : ∀ j ∈ [6, 9], j ≠ 13 ∧ j ≠ 14 := by decide
    have := this j hj
    simp only [aJ_wJ, aJ_wI]
    rw [up1_no (by omega), up1_no (by omega)]
    exact s5 j hj
  · rw [hpr, List.length_append] at hJ'
    simp only [List.length_cons, List.length_nil] at hJ'
    simp only [aI_wJ, aI_wI, aJ_wJ, aJ_wI]
    simp only [up1_at, up1_no (show m + 11 ≠ m + 12 by omega), up1_no (show m + 12 ≠ m + 11 by omega), up1_no (show m + 13 ≠ m + 14 by omega), up1_no (show m + 14 ≠ m + 13 by omega), up1_no (show J' ≠ J by omega)]
    exact s6 J' (by omega)
  · rw [hpr] at hd
    simp only [aI_wJ, aI_wI, aJ_wJ, aJ_wI]
    simp only [up1_at, up1_no (show m + 11 ≠ m + 12 by omega), up1_no (show m + 12 ≠ m + 11 by omega), up1_no (show m + 13 ≠ m + 14 by omega), up1_no (show m + 14 ≠ m + 13 by omega)]
    by_cases e : d < (prK p g (cs.take i)).length
    · rw [List.getElem?_append_left e] at hd
      simp only [up1_no (show 4 * k + d ≠ J by omega)]
      exact s7 d t hd
    · rw [List.getElem?_append_right (by omega)] at hd
      have : d - (prK p g (cs.take i)).length < 1 := (List.getElem?_eq_some_iff.mp hd).1
      rw [show d - (prK p g (cs.take i)).length = 0 by omega] at hd
      have hd : (if g = true then mvK p c else c) = t := Option.some.inj hd
      rw [show 4 * k + d = J by omega]
      simp only [up1_at]
      rw [hv, ← hd, hc2]
      exact ⟨rfl, rfl, rfl, rfl⟩
theorem m_drop_loop {m k p : Nat} {g : Bool} {cs : List TK} {M0 : Mem} (hk : k < 6) (h4 : cs.length ≤ 4) (hp : p < 2147483648) (hcs : ∀ c ∈ cs, c.1 < 2147483648) (hn : aI M0 (m + 10) k = nI cs.length) (h0 : ∀ (c : Nat) (t : TK), cs[c]? = some t → aI M0 (m + 11) (4 * k + c) = nI t.1 ∧ aI M0 (m + 12) (4 * k + c) = t.2.1 ∧ aJ M0 (m + 13) (4 * k + c) = t.2.2.1 ∧ aJ M0 (m + 14) (4 * k + c) = t.2.2.2) :
    ∀ (n i : Nat) (M : Mem), n + i = cs.length → ShK m k p g cs i M0 M → ∃ M', rn PP 181 6 [some (pR (some m)), some (pI (nI k)), some (pI (nI p)), some (pI (b32 g)), some (pI (nI (prK p g (cs.take i)).length)), some (pI (nI i)), none, none] [] M = some (none, wI M' (m + 10) k (nI (prK p g cs).length)) ∧ ShK m k p g cs cs.length M0 M' := by
  intro n
  induction n with
  | zero =>
    intro i M hi hS
    have hi : i = cs.length := by omega
    subst hi
    obtain ⟨mB, s⟩ := id hS
    refine ⟨M, ?_, hS⟩
    have hg : aI M (m + 10) k = nI cs.length := by rw [s.2.2.2.1 10 (by decide)]; exact hn
    rw [tX12_dropChecks_6]
    refine rd_i rfl mB.k (ix_m mB.a10 rfl (by omega) (by omega) ?_)
    rw [hg]
    refine it_t (nI_le (Nat.le_refl _) (by omega)) (rd_i rfl mB.k (ix_m mB.a10 rfl (by omega) (by omega) (bd_i ?_)))
    rw [List.take_length]
  | succ n ih =>
    intro i M hi hS
    obtain ⟨mB, s1, s2, s3, s4, s5, s6, s7⟩ := id hS
    obtain ⟨c, hc, -⟩ := drop_get (l := cs) (i := i) (by omega)
    have hcm : c.1 < 2147483648 := hcs c (List.mem_of_getElem? hc)
    have hle := prK_le p g (cs.take i)
    rw [List.length_take] at hle
    obtain ⟨q1, q2, q3, q4⟩ := s6 (4 * k + i) (by omega)
    obtain ⟨w1, w2, w3, w4⟩ := h0 i c hc
    rw [w1] at q1
    rw [w2] at q2
    rw [w3] at q3
    rw [w4] at q4
    have hg : aI M (m + 10) k = nI cs.length := by rw [s4 10 (by decide)]; exact hn
    have ht : cs.take (i + 1) = cs.take i ++ [c] := by rw [List.take_succ, hc]; rfl
    generalize hn' : (prK p g (cs.take i)).length = n' at hle ih ⊢
    by_cases e : c.1 = p
    · have hpr : (prK p g (cs.take (i + 1))).length = n' := by rw [ht, prK_app, if_pos e, List.append_nil]; exact hn'
      have hSn : ShK m k p g cs (i + 1) M0 M := by
        have e9 : prK p g (cs.take (i + 1)) = prK p g (cs.take i) := by rw [ht, prK_app, if_pos e, List.append_nil]
        exact ⟨mB, s1, s2, s3, s4, s5, by rw [e9]; exact s6, by rw [e9]; exact s7⟩
      obtain ⟨M', e1, e2⟩ := ih (i + 1) M (by omega) hSn
      rw [hpr] at e1
      refine ⟨M', ?_, e2⟩
      rw [tX12_dropChecks_6]
      refine rd_i rfl mB.k (ix_m mB.a10 rfl (by omega) (by omega) ?_)
      rw [hg]
      refine it_f (nI_ge (by omega) (by omega)) (rd_i rfl mB.k (ix_m mB.a11 (m4 k i) (by omega) (by omega) (it_t (by rw [q1, e]) ?_)))
      rw [nI_1]
      exact e1
    · -- it stays, at the next free place
      have hpr : (prK p g (cs.take (i + 1))).length = n' + 1 := by rw [ht, prK_app, if_neg e, List.length_append, hn']; rfl
      have sfx : ∀ v : Int32, v = nI (if g = true then mvK p c else c).1 → ∃ M', (rd (some m) 12 (wI M (m + 11) (4 * k + n') v) fun a21 => rd (some m) 12 (wI M (m + 11) (4 * k + n') v) fun a22 => ix 20 30 (gR (wI M (m + 11) (4 * k + n') v) 781 a22) ((4 * nI k) + nI i) (wI M (m + 11) (4 * k + n') v) fun a23 j24 => ix 20 20 (gR (wI M (m + 11) (4 * k + n') v) 781 a21) ((4 * nI k) + nI n') (wI M (m + 11) (4 * k + n') v) fun a25 j26 => bd (wI (wI M (m + 11) (4 * k + n') v) a25 j26 (aI (wI M (m + 11) (4 * k + n') v) a23 j24)) fun M27 => rd (some m) 12 M27 fun a28 => rd (some m) 12 M27 fun a29 => ix 21 21 (gR M27 782 a29) ((4 * nI k) + nI i) M27 fun a30 j31 => ix 21 21 (gR M27 782 a28) ((4 * nI k) + nI n') M27 fun a32 j33 => bd (wJ M27 a32 j33 (aJ M27 a30 j31)) fun M34 => rd (some m) 12 M34 fun a35 => rd (some m) 12 M34 fun a36 => ix 21 21 (gR M34 783 a36) ((4 * nI k) + nI i) M34 fun a37 j38 => ix 21 21 (gR M34 783 a35) ((4 * nI k) + nI n') M34 fun a39 j40 => bd (wJ M34 a39 j40 (aJ M34 a37 j38)) fun M41 => rn PP 181 6 [some (pR (some m)), some (pI (nI k)), some (pI (nI p)), some (pI (b32 g)), some (pI (nI n' + 1)), some (pI (nI i + 1)), none, none] [] M41) = some (none, wI M' (m + 10) k (nI (prK p g cs).length)) ∧ ShK m k p g cs cs.length M0 M' := by
        intro v hv
        have hSn := ShK_step (J := 4 * k + n') (v := v) hS hc e (by rw [hn']) hv
        obtain ⟨M', e1, e2⟩ := ih (i + 1) _ (by omega) hSn
        rw [hpr] at e1
        refine ⟨M', ?_, e2⟩
        have mB1 : MB m (wI M (m + 11) (4 * k + n') v) := mB.wI
        have r2 : aI (wI M (m + 11) (4 * k + n') v) (m + 12) (4 * k + i) = c.2.1 := by rw [aI_wI, up1_no (by omega)]; exact q2
        have r3 : aJ (wI M (m + 11) (4 * k + n') v) (m + 13) (4 * k + i) = c.2.2.1 := by rw [aJ_wI]; exact q3
        have r4 : aJ (wI M (m + 11) (4 * k + n') v) (m + 14) (4 * k + i) = c.2.2.2 := by rw [aJ_wI]; exact q4
        generalize wI M (m + 11) (4 * k + n') v = Ma at e1 mB1 r2 r3 r4 ⊢
        refine rd_i rfl mB1.k (rd_i rfl mB1.k (ix_m mB1.a12 (m4 k i) (by omega) (by omega) (ix_m mB1.a12 (m4 k n') (by omega) (by omega) (bd_i ?_))))
        rw [r2]
        have mB2 : MB m (wI Ma (m + 12) (4 * k + n') c.2.1) := mB1.wI
        have r3 : aJ (wI Ma (m + 12) (4 * k + n') c.2.1) (m + 13) (4 * k + i) = c.2.2.1 := by rw [aJ_wI]; exact r3
        have r4 : aJ (wI Ma (m + 12) (4 * k + n') c.2.1) (m + 14) (4 * k + i) = c.2.2.2 := by rw [aJ_wI]; exact r4
        generalize wI Ma (m + 12) (4 * k + n') c.2.1 = Mb at e1 mB2 r3 r4 ⊢
        refine rd_i rfl mB2.k (rd_i rfl mB2.k (ix_m mB2.a13 (m4 k i) (by omega) (by omega) (ix_m mB2.a13 (m4 k n') (by omega) (by omega) (bd_i ?_))))
        rw [r3]
        have mB3 : MB m (wJ Mb (m + 13) (4 * k + n') c.2.2.1) := mB2.wJ
        have r4 : aJ (wJ Mb (m + 13) (4 * k + n') c.2.2.1) (m + 14) (4 * k + i) = c.2.2.2 := by rw [aJ_wJ, up1_no (by omega)]; exact r4
        generalize wJ Mb (m + 13) (4 * k + n') c.2.2.1 = Mc at e1 mB3 r4 ⊢
        refine rd_i rfl mB3.k (rd_i rfl mB3.k (ix_m mB3.a14 (m4 k i) (by omega) (by omega) (ix_m mB3.a14 (m4 k n') (by omega) (by omega) (bd_i ?_))))
        rw [r4, nI_1, nI_1]
        exact e1
      by_cases h1 : c.1 ≤ p
      · obtain ⟨M', e1, e2⟩ := sfx (nI c.1) (by
          congr 1
          split
          · unfold mvK; rw [if_neg (by omega)]
          · rfl)
        refine ⟨M', ?_, e2⟩
        rw [tX12_dropChecks_6]
        refine rd_i rfl mB.k (ix_m mB.a10 rfl (by omega) (by omega) ?_)
        rw [hg]
        refine it_f (nI_ge (by omega) (by omega)) (rd_i rfl mB.k (ix_m mB.a11 (m4 k i) (by omega) (by omega) (it_f (fun z => e (nI_inj hcm hp (by rw [← q1]; exact z))) (rd_i rfl mB.k (rd_i rfl mB.k (ix_m mB.a11 (m4 k i) (by omega) (by omega) (it_t (by rw [q1, nI_leI hcm hp]; exact h1) (rd_i rfl mB.k (ix_m mB.a11 (m4 k i) (by omega) (by omega) (ix_m mB.a11 (m4 k n') (by omega) (by omega) (bd_i ?_)))))))))))
        rw [q1]
        exact e1
      · cases g with
        | false =>
          obtain ⟨M', e1, e2⟩ := sfx (nI c.1) rfl
          refine ⟨M', ?_, e2⟩
          rw [tX12_dropChecks_6]
          refine rd_i rfl mB.k (ix_m mB.a10 rfl (by omega) (by omega) ?_)
          rw [hg]
          refine it_f (nI_ge (by omega) (by omega)) (rd_i rfl mB.k (ix_m mB.a11 (m4 k i) (by omega) (by omega) (it_f (fun z => e (nI_inj hcm hp (by rw [← q1]; exact z))) (rd_i rfl mB.k (rd_i rfl mB.k (ix_m mB.a11 (m4 k i) (by omega) (by omega) (it_f (by rw [q1, nI_leI hcm hp]; exact h1) (it_t rfl (rd_i rfl mB.k (ix_m mB.a11 (m4 k i) (by omega) (by omega) (ix_m mB.a11 (m4 k n') (by omega) (by omega) (bd_i ?_))))))))))))
          rw [q1]
          exact e1
        | true =>
          obtain ⟨M', e1, e2⟩ := sfx (nI (c.1 - 1)) (by
            congr 1
            rw [if_pos rfl]
            unfold mvK
            rw [if_pos (by omega)])
          refine ⟨M', ?_, e2⟩
          rw [tX12_dropChecks_6]
          refine rd_i rfl mB.k (ix_m mB.a10 rfl (by omega) (by omega) ?_)
          rw [hg]
          refine it_f (nI_ge (by omega) (by omega)) (rd_i rfl mB.k (ix_m mB.a11 (m4 k i) (by omega) (by omega) (it_f (fun z => e (nI_inj hcm hp (by rw [← q1]; exact z))) (rd_i rfl mB.k (rd_i rfl mB.k (ix_m mB.a11 (m4 k i) (by omega) (by omega) (it_f (by rw [q1, nI_leI hcm hp]; exact h1) (it_f (by decide) (rd_i rfl mB.k (ix_m mB.a11 (m4 k i) (by omega) (by omega) (ix_m mB.a11 (m4 k n') (by omega) (by omega) (bd_i ?_))))))))))))
          rw [q1, show nI c.1 - 1 = nI (c.1 - 1) from nI_sub (b := 1) (by omega)]
          exact e1
