/-! CALLS: give -/
section OPS
variable {x : Nat} {E E' : List TE} {R R' : List TR} {F F' : List TF} {W W' : List TW} {O O' : List TO} {T T' : List TL} {S S' : TS} {jW jO jW' jO' n : Nat} {M M' M1 : Mem}
/-- the model's single fields, the order of starts, what is given -/
def US (m : Nat) (M M' : Mem) : Prop := (kd M' = kd M ∧ ln M' = ln M ∧ gR M' = gR M) ∧ (∀ k, k ∈ [768, 773, 784, 793, 791, 813] → gI M' k m = gI M k m) ∧ (∀ i, i ≠ 21 → aI M' (m + i) = aI M (m + i)) ∧ (∀ i, i ≠ 28 → aJ M' (m + i) = aJ M (m + i))
theorem MI.us {m : Nat} {M' : Mem} (h : MI m E R F W O T S M) (u : US m M M') (hS : MS m M' S') : MI m E R F W O T S' M' := by
  obtain ⟨h1, h2, h3, h4, h5, h6, h7, h8⟩ := h
  obtain ⟨⟨u1, u2, u3⟩, u4, a, b⟩ := u
  exact ⟨⟨by rw [u1]; exact h1.1, fun q hq => by rw [u1, u2, u3]; exact h1.2 q hq⟩, h2.cg (u4 _ (by decide)) (a _ (by omega)) (a _ (by omega)) (a _ (by omega)) (a _ (by omega)) (a _ (by omega)) (b _ (by omega)), h3.cg (u4 _ (by decide)) (a _ (by omega)) (a _ (by omega)) (a _ (by omega)) (a _ (by omega)) (a _ (by omega)) (a _ (by omega)) (a _ (by omega)) (b _ (by omega)) (b _ (by omega)) (b _ (by omega)) (b _ (by omega)), h4.cg (u4 _ (by decide)) (a _ (by omega)) (a _ (by omega)), h5.cg (u4 _ (by decide)) (a _ (by omega)) (a _ (by omega)) (b _ (by omega)), h6.cg (u4 _ (by decide)) (a _ (by omega)) (a _ (by omega)) (b _ (by omega)), h7.cg (u4 _ (by decide)) (a _ (by omega)) (a _ (by omega)) (a _ (by omega)) (a _ (by omega)) (a _ (by omega)) (a _ (by omega)) (a _ (by omega)) (a _ (by omega)) (b _ (by omega)) (b _ (by omega)) (b _ (by omega)), hS⟩
theorem op_give (h : Inv x E R F W O T S jW jO M) (e : Int32) (v : Int64) : Op x W O T jW jO M (fun M => ex 90 4 [pR (some x), pI e, pJ v] M) (fun M => ex 195 4 [pR (some (x + 12)), pI e, pJ v] M) := by
  obtain ⟨hX, hM, aw⟩ := id h
  obtain ⟨⟨hB, hv, hL⟩, h1, h2, h3, h4, h5, h6, h7⟩ := id hX
  obtain ⟨mB, -, -, -, -, -, -, mS⟩ := id hM
  have e5 : (5 : Int64) = (nI 6 - 1).toInt64 := by decide
  rcases oob_or e 6 (by omega) with ho | ⟨k, hk, rfl⟩
  · refine Op.keep h (v := pI (-1)) ?_ ?_
    · show ex 90 4 [pR (some x), pI e, pJ v] M = _
      rw [tX11_give]
      by_cases e0 : e < 0
      · exact it_t e0 rfl
      · refine it_f e0 (it_f (fun z => ?_) rfl)
        have z1 := ho.resolve_left e0
        rw [I32_le] at z1
        rw [I32_lt] at z
        have : (nI 6).toInt = (6 : Int32).toInt := rfl
        omega
    · show ex 195 4 [pR (some (x + 12)), pI e, pJ v] M = _
      rw [tX12_give, e5]
      refine clI_i (m_in _ _ _ M) ?_
      rw [inB_no (by omega) ho]
      exact it_f (not_not_intro rfl) rfl
  · have f : Fr x No No No (fun d => d = x + 7) 0 M (wJ M (x + 7) k v) := (Fr.rf hv hL).bAJ (Or.inl rfl)
    have xs : XS x (wJ M (x + 7) k v) (S.1, S.2.1, S.2.2.1, up1 S.2.2.2.1 k v, S.2.2.2.2) := by
      obtain ⟨s1, s2, s3, s4, s5, s6, s7, s8, s9⟩ := h7
      refine ⟨by rw [gI_wJ]; exact s1, by rw [gI_wJ]; exact s2, by rw [gI_wJ]; exact s3, fun i c hc => by rw [aI_wJ]; exact s4 i c hc, fun i hi => ?_, fun i hi => by rw [aI_wJ]; exact s6 i hi, by rw [gI_wJ]; exact s7, by rw [gI_wJ]; exact s8, by rw [gI_wJ]; exact s9⟩
      rw [aJ_wJ, up1_at]
      by_cases q : i = k
      · subst q; rw [up1_at]; exact up1_at.symm
      · rw [up1_no q, s5 i hi]; exact (up1_no q).symm
    have run : ex 90 4 [pR (some x), pI (nI k), pJ v] M = some (some (pI 1), wJ M (x + 7) k v) := by
      rw [tX11_give]
      exact it_f (nI_pos (by omega)) (it_t (nI6 hk) (rd_i rfl hB.k (ix_i hB.r7.1 (Or.inl hB.r7.2.1) rfl (by rw [hB.r7.2.2]; omega) (by omega) (bd_i rfl))))
    generalize wJ M (x + 7) k v = M1 at f xs run
    have hX1 : XI x E R F W O T (S.1, S.2.1, S.2.2.1, up1 S.2.2.2.1 k v, S.2.2.2.2) jW jO M1 := ⟨⟨hB.fr f (fun _ _ => id) (fun _ _ => id), f.v, f.li⟩, h1.fr f (fun _ _ => id) id (fun _ _ _ => id), h2.fr f (fun _ _ => id) id (fun _ _ _ _ => ⟨id, id⟩), h3.fr f (fun _ _ => id) id (fun _ _ _ => ⟨id, id⟩), h4.fr hB f (fun _ _ => id) id (fun a ha _ q => by omega), h5.fr hB f (fun _ _ => id) id (fun a ha _ q => by omega), h6.fr f (fun _ _ => id) id ⟨fun a ha _ q => by omega, fun d hd q => by omega⟩, xs⟩
    refine Op.chg (S' := (S.1, S.2.1, S.2.2.1, up1 S.2.2.2.1 k v, S.2.2.2.2)) (v := pI 1) h (M1 := M1) run (f.mo (n' := 0) (Nat.le_refl _) (fun _ q => q.elim) (fun _ q => q.elim) (fun _ q => q.elim) (fun d q => by omega)) hX1 (fun hM1 => ?_) aw (by omega)
    obtain ⟨mB1, -, -, -, -, -, -, mS1⟩ := id hM1
    refine ⟨wJ M1 (x + 12 + 28) k v, ?_, CU.rf.wJ (by omega), hM1.us ⟨⟨rfl, rfl, rfl⟩, fun _ _ => rfl, fun _ _ => rfl, fun i hi => by rw [aJ_wJ, up1_no (by omega)]⟩ ?_⟩
    · show ex 195 4 [pR (some (x + 12)), pI (nI k), pJ v] M1 = _
      rw [tX12_give, e5]
      refine clI_i (m_in _ _ _ M1) ?_
      rw [inB_yes (by omega) hk]
      exact it_t (by decide) (rd_i rfl mB1.k (ix_m mB1.a28 rfl (by omega) (by omega) (bd_i rfl)))
    · obtain ⟨s1, s2, s3, s4, s5, s6, s7, s8⟩ := mS1
      refine ⟨by rw [gI_wJ]; exact s1, by rw [gI_wJ]; exact s2, by rw [gI_wJ]; exact s3, fun i c hc => by rw [aI_wJ]; exact s4 i c hc, fun i hi => ?_, ⟨by rw [gI_wJ]; exact s6.1, by rw [gI_wJ]; exact s6.2.1, by rw [gI_wJ]; exact s6.2.2.1, by rw [gI_wJ]; exact s6.2.2.2.1, by rw [gI_wJ]; exact s6.2.2.2.2⟩, by rw [gI_wJ]; exact s7, by rw [gI_wJ]; exact s8⟩
      rw [aJ_wJ, up1_at]
      by_cases q : i = k
      · subst q; rw [up1_at]; exact up1_at.symm
      · rw [up1_no q, s5 i hi]; exact (up1_no q).symm
end OPS
