/-! THE MODEL'S LEAVES -/
theorem addL_mem {acc : List Int32} {c : Int32} : c ∈ addL acc c := by
  unfold addL
  split
  · assumption
  · rw [List.mem_append]; exact Or.inr (List.mem_singleton.mpr rfl)
theorem addL_sub {acc : List Int32} {c d : Int32} (h : d ∈ acc) : d ∈ addL acc c := by
  unfold addL
  split
  · exact h
  · rw [List.mem_append]; exact Or.inl h
theorem fold_sub {d : Int32} : ∀ (l acc : List Int32), d ∈ acc → d ∈ l.foldl addL acc := by
  intro l
  induction l with
  | nil => intro acc h; exact h
  | cons c l ih => intro acc h; exact ih _ (addL_sub h)
theorem fold_mem {d : Int32} : ∀ (l acc : List Int32), d ∈ l → d ∈ l.foldl addL acc := by
  intro l
  induction l with
  | nil => intro acc h; simp at h
  | cons c l ih =>
    intro acc h
    rw [List.mem_cons] at h
    rcases h with rfl | h
    · exact fold_sub l _ addL_mem
    · exact ih _ h
theorem fold_add (acc D : List Int32) (c : Int32) : (addL D c).foldl addL acc = addL (D.foldl addL acc) c := by
  by_cases h : c ∈ D
  · have e1 : addL D c = D := if_pos h
    have e2 : addL (D.foldl addL acc) c = D.foldl addL acc := if_pos (fold_mem _ _ h)
    rw [e1, e2]
  · have e1 : addL D c = D ++ [c] := by unfold addL; rw [if_neg h]
    rw [e1, List.foldl_append]
    rfl
theorem fold_fold (acc : List Int32) : ∀ (t D : List Int32), (t.foldl addL D).foldl addL acc = t.foldl addL (D.foldl addL acc) := by
  intro t
  induction t with
  | nil => intro D; rfl
  | cons c t ih => intro D; rw [List.foldl_cons, List.foldl_cons, ih, fold_add]
theorem fold_step (t : List (List Int32)) (acc : List Int32) : ∀ (l D : List Int32), (l.foldl (stepL2 t) D).foldl addL acc = l.foldl (stepL2 t) (D.foldl addL acc) := by
  intro l
  induction l with
  | nil => intro D; rfl
  | cons c l ih =>
    intro D
    rw [List.foldl_cons, List.foldl_cons, ih]
    congr 1
    unfold stepL2
    by_cases h : c < 10
    · rw [if_pos h, if_pos h, fold_add]
    · rw [if_neg h, if_neg h, fold_fold]
/-- the leaves of a lesser family, its members one by one -/
theorem lv_fold (F : List TF) (g : Nat) (acc : List Int32) : (lvF F g).foldl addL acc = ((F.getD g ([], [])).1).foldl (stepL2 (lvT F g)) acc := fold_step _ acc _ []
section FL
variable {x m : Nat} {F : List TF} {M M0 M' M1 : Mem} {acc : List Int32}
/-- the model's search: what it may have changed, the leaves so far -/
def FL (m : Nat) (M0 M : Mem) (acc : List Int32) : Prop := (MB m M ∧ CU m M0 M ∧ UF m M0 M) ∧ (gI M 784 m = gI M0 784 m ∧ aI M (m + 15) = aI M0 (m + 15) ∧ aI M (m + 16) = aI M0 (m + 16)) ∧ gI M 788 m = nI acc.length ∧ (∀ (i : Nat) (c : Int32), acc[i]? = some c → aI M (m + 17) i = c) ∧ gdL acc ∧ gJ M = gJ M0
theorem m_tagOf (h : FL m M0 M acc) (c : Int32) : ex 173 3 [pR (some m), pI c] M = some (some (pI (fndI acc c 0)), M) := by
  obtain ⟨⟨mB, -, -⟩, -, h3, h7, hg, -⟩ := h
  have hl : acc.length ≤ 6 := pigeon 6 _ hg.1 hg.2
  have key : ∀ (n i : Nat), n + i = acc.length → rn PP 173 2 [some (pR (some m)), some (pI c), some (pI (nI i))] [] M = some (some (pI (fndI (acc.drop i) c i)), M) := by
    intro n
    induction n with
    | zero =>
      intro i hi
      rw [tX12_tagOf_2]
      refine rd_i rfl mB.k (it_t (by rw [h3]; exact nI_le (by omega) (by omega)) ?_)
      rw [List.drop_of_length_le (by omega)]
      rfl
    | succ n ih =>
      intro i hi
      obtain ⟨r, hr, hd⟩ := drop_get (l := acc) (i := i) (by omega)
      rw [tX12_tagOf_2, hd]
      refine rd_i rfl mB.k (it_f (by rw [h3]; exact nI_ge (by omega) (by omega)) (rd_i rfl mB.k (ix_m mB.a17 rfl (by omega) (by omega) ?_)))
      rw [h7 i r hr]
      show _ = some (some (pI (if r = c then nI i else fndI (acc.drop (i + 1)) c (i + 1))), M)
      by_cases e : r = c
      · rw [if_pos e]
        exact it_f (not_not_intro e) rfl
      · rw [if_neg e]
        refine it_t e ?_
        rw [nI_1]
        exact ih (i + 1) (by omega)
  rw [tX12_tagOf]
  exact key acc.length 0 (by omega)
theorem nI_dec (h : Nat) : nI (h + 1) + (-1) = nI h := by rw [nIm1', nI_pred]
/-- one record from the stack -/
theorem fl_rec {h r : Nat} (hf : FL m M0 M acc) (hh : h < 10) (hr : r < 6) (hs : aI M (m + 18) h = nI r) : ∃ M', rn PP 172 19 [some (pR (some m)), none, some (pI (nI (h + 1))), none, none] [] M = rn PP 172 19 [some (pR (some m)), none, some (pI (nI h)), none, none] [] M' ∧ FL m M0 M' (addL acc (nI r)) ∧ aI M' (m + 18) = aI M (m + 18) := by
  have ht := m_tagOf hf (nI r)
  obtain ⟨⟨mB, cu, uf⟩, ⟨w1, w2, w3⟩, h3, h7, hg, hj⟩ := id hf
  have hl : acc.length ≤ 6 := pigeon 6 _ hg.1 hg.2
  by_cases hm : nI r ∈ acc
  · refine ⟨M, ?_, by unfold addL; rw [if_pos hm]; exact hf, rfl⟩
    conv => lhs; rw [tX12_findLeaves_19]
    refine it_f (fun z => ?_) (rd_i rfl mB.k (ix_m mB.a18 (nI_dec h) (by omega) (by omega) ?_))
    · rw [I32_le, nI_toInt (by omega)] at z
      have : (0 : Int32).toInt = 0 := rfl
      omega
    · rw [hs, nI_dec]
      exact it_t (nI_lt (b := 10) (by omega) (by decide)) (rd_i rfl mB.k (clI_i ht (it_t (fun z => (fndI_mem acc 0 (by omega)).mp z hm) rfl)))
  · have hlt := hg.lt ⟨r, hr, rfl⟩ hm
    have ea : addL acc (nI r) = acc ++ [nI r] := by unfold addL; rw [if_neg hm]
    have mB1 : MB m (wI M (m + 17) acc.length (nI r)) := mB.wI
    have b17 : aI (sI (wI M (m + 17) acc.length (nI r)) 788 m (nI acc.length + 1)) (m + 17) = up1 (aI M (m + 17)) acc.length (nI r) := by rw [aI_sI, aI_wI, up1_at]
    have g1 : gI (wI M (m + 17) acc.length (nI r)) 788 m = nI acc.length := by rw [gI_wI]; exact h3
    have uf1 : UF m M0 (sI (wI M (m + 17) acc.length (nI r)) 788 m (nI acc.length + 1)) := (uf.wI (by omega)).sI (Or.inr rfl)
    refine ⟨sI (wI M (m + 17) acc.length (nI r)) 788 m (nI acc.length + 1), ?_, ⟨⟨⟨by rw [uf1.1.1]; exact (uf.1.1 ▸ mB.1), fun q hq => ?_⟩, (cu.wI (by omega)).bI (by omega), uf1⟩, ⟨by rw [gI_sI, up2_ne (by decide), gI_wI]; exact w1, by rw [aI_sI, aI_wI, up1_no (by omega)]; exact w2, by rw [aI_sI, aI_wI, up1_no (by omega)]; exact w3⟩, ?_, fun i c hc => ?_, hg.add ⟨r, hr, rfl⟩, by rw [gJ_sI, gJ_wI]; exact hj⟩, by rw [aI_sI, aI_wI, up1_no (by omega)]⟩
    · conv => lhs; rw [tX12_findLeaves_19]
      refine it_f (fun z => ?_) (rd_i rfl mB.k (ix_m mB.a18 (nI_dec h) (by omega) (by omega) ?_))
      · rw [I32_le, nI_toInt (by omega)] at z
        have : (0 : Int32).toInt = 0 := rfl
        omega
      · rw [hs, nI_dec]
        refine it_t (nI_lt (b := 10) (by omega) (by decide)) (rd_i rfl mB.k (clI_i ht (it_f (not_not_intro ((fndI_mem acc 0 (by omega)).mpr hm)) (rd_i rfl mB.k (rd_i rfl mB.k (ix_m mB.a17 h3 (by omega) (by omega) (bd_i (rd_i rfl mB1.k (rd_i rfl mB1.k ?_)))))))))
        rw [g1]
        rfl
    · have := mB1.2 q hq
      rw [gR_sI, kd_sI, ln_sI]
      exact this
    · rw [gI_sI, up2_at, ea, List.length_append, nI_1]; rfl
    · rw [b17]
      rw [ea] at hc
      by_cases e : i < acc.length
      · rw [List.getElem?_append_left e] at hc
        rw [up1_no (by omega)]
        exact h7 i c hc
      · rw [List.getElem?_append_right (by omega)] at hc
        have : i - acc.length < 1 := (List.getElem?_eq_some_iff.mp hc).1
        have e2 : i = acc.length := by omega
        subst e2
        rw [Nat.sub_self] at hc
        cases hc
        rw [up1_at]
end FL
