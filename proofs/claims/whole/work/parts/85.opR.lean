/-! CALLS on records: record, part -/
theorem inB_rng (s : Int32) (lo hi : Int64) : inB s.toInt64 lo hi = if lo.toInt ≤ s.toInt ∧ s.toInt ≤ hi.toInt then 1 else 0 := by
  unfold inB
  simp only [I64_le, Int32.toInt_toInt64]
section OPR
variable {x : Nat} {E E' : List TE} {R R' : List TR} {F F' : List TF} {W W' : List TW} {O O' : List TO} {T T' : List TL} {S S' : TS} {jW jO jW' jO' n : Nat} {M M1 : Mem}
theorem m_isSort {m : Nat} {s o : Int32} (mB : MB m M) (mE : ME m M E) (mF : MF m M F) : (isSrt E.length F.length s o → ex 176 3 [pR (some m), pI s, pI o] M = some (some (pI 1), M)) ∧ (¬ isSrt E.length F.length s o → ex 176 3 [pR (some m), pI s, pI o] M = some (some (pI 0), M)) := by
  have hle := mE.2.1
  have hlf := mF.2.1
  have i0 : (0 : Int32).toInt = 0 := rfl
  have i7 : (7 : Int32).toInt = 7 := rfl
  have i8 : (8 : Int32).toInt = 8 := rfl
  have i9 : (9 : Int32).toInt = 9 := rfl
  have i10 : (10 : Int32).toInt = 10 := rfl
  have i11 : (11 : Int32).toInt = 11 := rfl
  have j0 : (0 : Int64).toInt = 0 := rfl
  have j7 : (7 : Int64).toInt = 7 := rfl
  have j11 : (11 : Int64).toInt = 11 := rfl
  rw [tX12_isSort]
  by_cases hb : 0 ≤ s ∧ s ≤ 11
  · have hb' := hb
    rw [I32_le, I32_le] at hb'
    have hin : inB s.toInt64 0 11 = 1 := by rw [inB_rng, if_pos (by omega)]
    by_cases h8 : s < 8
    · have h8' := h8
      rw [I32_lt] at h8'
      have ne : ∀ c : Int32, 8 ≤ c.toInt → s ≠ c := fun c hc q => by rw [q] at h8'; omega
      refine ⟨fun _ => clI_i (m_in _ _ _ M) ?_, fun h => absurd ⟨hb, fun w => by rcases w with w | w; exact absurd w (ne 8 (by omega)); exact absurd w (ne 9 (by omega)), fun w => absurd w (ne 10 (by omega)), fun w => absurd w (ne 11 (by omega))⟩ h⟩
      rw [hin]
      exact it_t (by decide) (it_t h8 (zo_i (Or.inr rfl) rfl))
    have h8' := h8
    rw [I32_lt] at h8'
    by_cases h10 : 10 ≤ s
    · have h10' := h10
      rw [I32_le] at h10'
      have n89 : ¬ (s = 8 ∨ s = 9) := fun w => by rcases w with w | w <;> (rw [w] at h10'; omega)
      by_cases e10 : s = 10
      · have ho : inB o.toInt64 0 7 = if 0 ≤ o ∧ o ≤ 7 then 1 else 0 := by
          rw [inB_rng]
          simp only [I32_le, i0, i7, j0, j7]
        by_cases hr : 0 ≤ o ∧ o ≤ 7
        · rw [if_pos hr] at ho
          refine ⟨fun _ => clI_i (m_in _ _ _ M) ?_, fun h => absurd ⟨hb, fun w => absurd w n89, fun _ => hr, fun w => absurd (e10.symm.trans w) (by decide)⟩ h⟩
          rw [hin]
          refine it_t (by decide) (it_f h8 (it_t h10 (it_f (not_not_intro e10) (clI_i (m_in _ _ _ M) ?_))))
          rw [ho]
          exact it_f (by decide) (zo_i (Or.inr rfl) rfl)
        · rw [if_neg hr] at ho
          refine ⟨fun h => absurd (h.2.2.1 e10) hr, fun _ => clI_i (m_in _ _ _ M) ?_⟩
          rw [hin]
          refine it_t (by decide) (it_f h8 (it_t h10 (it_f (not_not_intro e10) (clI_i (m_in _ _ _ M) ?_))))
          rw [ho]
          exact it_t rfl (zo_i (Or.inl rfl) rfl)
      · have e11 : s = 11 := by
          apply Int32.toInt_inj.mp
          have : s.toInt ≠ 10 := fun q => e10 (Int32.toInt_inj.mp (q.trans i10.symm))
          omega
        rcases oob_or o F.length (by omega) with z | ⟨k, hk, rfl⟩
        · refine ⟨fun h => absurd z (h.2.2.2 e11), fun _ => clI_i (m_in _ _ _ M) ?_⟩
          rw [hin]
          exact it_t (by decide) (it_f h8 (it_t h10 (it_t e10 (rd_i rfl mB.k (clI_i (m_isFam_no mB mF z) (it_t rfl (zo_i (Or.inl rfl) rfl)))))))
        · refine ⟨fun _ => clI_i (m_in _ _ _ M) ?_, fun h => absurd ⟨hb, fun w => absurd w n89, fun w => absurd w e10, fun _ z => by rcases z with z | z; exact nI_pos (by omega) z; exact nI_ge hk (by omega) z⟩ h⟩
          rw [hin]
          exact it_t (by decide) (it_f h8 (it_t h10 (it_t e10 (rd_i rfl mB.k (clI_i (m_isFam mB mF hk) (it_f (by decide) (zo_i (Or.inr rfl) rfl)))))))
    · have h10' := h10
      rw [I32_le] at h10'
      have e89 : s = 8 ∨ s = 9 := by
        by_cases q : s.toInt = 8
        · exact Or.inl (Int32.toInt_inj.mp (q.trans i8.symm))
        · exact Or.inr (Int32.toInt_inj.mp (show s.toInt = (9 : Int32).toInt by omega))
      have n10 : s ≠ 10 := fun w => by rw [w] at h10'; omega
      have n11 : s ≠ 11 := fun w => by rw [w] at h10'; omega
      rcases oob_or o E.length (by omega) with z | ⟨k, hk, rfl⟩
      · refine ⟨fun h => absurd z (h.2.1 e89), fun _ => clI_i (m_in _ _ _ M) ?_⟩
        rw [hin]
        exact it_t (by decide) (it_f h8 (it_f h10 (rd_i rfl mB.k (clI_i (m_isEnum_no mB mE z) (it_t rfl (zo_i (Or.inl rfl) rfl))))))
      · refine ⟨fun _ => clI_i (m_in _ _ _ M) ?_, fun h => absurd ⟨hb, fun _ z => by rcases z with z | z; exact nI_pos (by omega) z; exact nI_ge hk (by omega) z, fun w => absurd w n10, fun w => absurd w n11⟩ h⟩
        rw [hin]
        exact it_t (by decide) (it_f h8 (it_f h10 (rd_i rfl mB.k (clI_i (m_isEnum mB mE hk) (it_f (by decide) (zo_i (Or.inr rfl) rfl))))))
  · refine ⟨fun h => absurd h.1 hb, fun _ => clI_i (m_in _ _ _ M) ?_⟩
    have hin : inB s.toInt64 0 11 = 0 := by
      rw [inB_rng, if_neg ?_]
      intro q
      exact hb ⟨by rw [I32_le]; omega, by rw [I32_le]; omega⟩
    rw [hin]
    exact it_f (not_not_intro rfl) (zo_i (Or.inl rfl) rfl)
/-- all but the records' things are as they were -/
def UR (m : Nat) (M M' : Mem) : Prop := (kd M' = kd M ∧ ln M' = ln M ∧ gR M' = gR M) ∧ (∀ k, k ≠ 773 → gI M' k m = gI M k m) ∧ (∀ i, i < 5 ∨ 15 ≤ i → i ≠ 19 → aI M' (m + i) = aI M (m + i) ∧ aJ M' (m + i) = aJ M (m + i)) ∧ (∀ r, 10 ≤ r → aI M' (m + 19) r = aI M (m + 19) r)
theorem UR.rf {m : Nat} : UR m M M := ⟨⟨rfl, rfl, rfl⟩, fun _ _ => rfl, fun _ _ _ => ⟨rfl, rfl⟩, fun _ _ => rfl⟩
theorem UR.tr {m : Nat} {M2 : Mem} (h : UR m M M1) (g : UR m M1 M2) : UR m M M2 := by
  obtain ⟨⟨a1, a2, a3⟩, b, c, d⟩ := h
  obtain ⟨⟨a1', a2', a3'⟩, b', c', d'⟩ := g
  exact ⟨⟨a1'.trans a1, a2'.trans a2, a3'.trans a3⟩, fun k hk => (b' k hk).trans (b k hk), fun i x y => ⟨(c' i x y).1.trans (c i x y).1, (c' i x y).2.trans (c i x y).2⟩, fun r hr => (d' r hr).trans (d r hr)⟩
theorem UR.wI {m j p : Nat} {v : Int32} (h : UR m M M1) (hj : 5 ≤ j ∧ j < 15) : UR m M (wI M1 (m + j) p v) := h.tr ⟨⟨rfl, rfl, rfl⟩, fun _ _ => rfl, fun i h5 _ => ⟨by rw [aI_wI, up1_no (by omega)], rfl⟩, fun r _ => by rw [aI_wI, up1_no (by omega)]⟩
theorem UR.wJ {m j p : Nat} {v : Int64} (h : UR m M M1) (hj : 5 ≤ j ∧ j < 15) : UR m M (wJ M1 (m + j) p v) := h.tr ⟨⟨rfl, rfl, rfl⟩, fun _ _ => rfl, fun i h5 _ => ⟨rfl, by rw [aJ_wJ, up1_no (by omega)]⟩, fun r _ => rfl⟩
theorem UR.sI {m : Nat} {v : Int32} (h : UR m M M1) : UR m M (sI M1 773 m v) := h.tr ⟨⟨rfl, rfl, rfl⟩, fun k hk => g_ne hk, fun i _ _ => ⟨rfl, rfl⟩, fun r _ => rfl⟩
theorem MI.ur {m : Nat} {M' : Mem} (h : MI m E R F W O T S M) (u : UR m M M') (hR : MR m M' R') : MI m E R' F W O T S M' := by
  obtain ⟨h1, h2, h3, h4, h5, h6, h7, h8⟩ := h
  obtain ⟨⟨u1, u2, u3⟩, u4, u5, u6⟩ := u
  have a : ∀ i, i < 5 ∨ 15 ≤ i → i ≠ 19 → aI M' (m + i) = aI M (m + i) := fun i p q => (u5 i p q).1
  have b : ∀ i, i < 5 ∨ 15 ≤ i → i ≠ 19 → aJ M' (m + i) = aJ M (m + i) := fun i p q => (u5 i p q).2
  refine ⟨⟨by rw [u1]; exact h1.1, fun q hq => by rw [u1, u2, u3]; exact h1.2 q hq⟩, ?_, hR, h4.cg (u4 _ (by omega)) (a _ (by omega) (by omega)) (a _ (by omega) (by omega)), h5.cg (u4 _ (by omega)) (a _ (by omega) (by omega)) (a _ (by omega) (by omega)) (b _ (by omega) (by omega)), h6.cg (u4 _ (by omega)) (a _ (by omega) (by omega)) (a _ (by omega) (by omega)) (b _ (by omega) (by omega)), h7.cg (u4 _ (by omega)) (a _ (by omega) (by omega)) (a _ (by omega) (by omega)) (a _ (by omega) (by omega)) (a _ (by omega) (by omega)) (a _ (by omega) (by omega)) (a _ (by omega) (by omega)) (a _ (by omega) (by omega)) (a _ (by omega) (by omega)) (b _ (by omega) (by omega)) (b _ (by omega) (by omega)) (b _ (by omega) (by omega)), h8.cg (u4 _ (by omega)) (u4 _ (by omega)) (u4 _ (by omega)) (u4 _ (by omega)) (u4 _ (by omega)) (u4 _ (by omega)) (u4 _ (by omega)) (u4 _ (by omega)) (u4 _ (by omega)) (u4 _ (by omega)) (a _ (by omega) (by omega)) (b _ (by omega) (by omega))⟩
  obtain ⟨y1, y2, y3, y4⟩ := h2
  unfold ME
  rw [u4 768 (by omega), a 1 (by omega) (by omega), a 3 (by omega) (by omega), a 4 (by omega) (by omega), a 20 (by omega) (by omega), b 2 (by omega) (by omega)]
  refine ⟨y1, y2, fun r q hq => ?_, fun r hr1 hr2 => ?_⟩
  · rw [u6 (10 + r) (by omega)]
    exact y3 r q hq
  · rw [u6 (10 + r) (by omega)]
    exact y4 r hr1 hr2
/-- one record of the model's is another one, the rest of MR as it was -/
theorem MR_set {m k : Nat} {q q' : TR} {M' : Mem} (mR : MR m M R) (hq : R[k]? = some q) (h773 : gI M' 773 m = gI M 773 m)
    (hk : (q'.1.length ≤ 6 ∧ aI M' (m + 5) k = nI q'.1.length ∧ ∀ (p : Nat) (t : TP), q'.1[p]? = some t → aJ M' (m + 6) (6 * k + p) = t.1 ∧ aI M' (m + 7) (6 * k + p) = t.2.1 ∧ aI M' (m + 8) (6 * k + p) = t.2.2.1 ∧ aJ M' (m + 9) (6 * k + p) = t.2.2.2) ∧ (q'.2.1.length ≤ 4 ∧ aI M' (m + 10) k = nI q'.2.1.length ∧ ∀ (c : Nat) (t : TK), q'.2.1[c]? = some t → aI M' (m + 11) (4 * k + c) = nI t.1 ∧ aI M' (m + 12) (4 * k + c) = t.2.1 ∧ aJ M' (m + 13) (4 * k + c) = t.2.2.1 ∧ aJ M' (m + 14) (4 * k + c) = t.2.2.2) ∧ aI M' (m + 19) k = q'.2.2 ∧ (q'.2.2 = 0 ∨ q'.2.2 = 1))
    (ho : ∀ e, e ≠ k → aI M' (m + 5) e = aI M (m + 5) e ∧ aI M' (m + 10) e = aI M (m + 10) e ∧ (e < 6 → aI M' (m + 19) e = aI M (m + 19) e) ∧ (∀ p, p < 6 → aJ M' (m + 6) (6 * e + p) = aJ M (m + 6) (6 * e + p) ∧ aI M' (m + 7) (6 * e + p) = aI M (m + 7) (6 * e + p) ∧ aI M' (m + 8) (6 * e + p) = aI M (m + 8) (6 * e + p) ∧ aJ M' (m + 9) (6 * e + p) = aJ M (m + 9) (6 * e + p)) ∧ (∀ c, c < 4 → aI M' (m + 11) (4 * e + c) = aI M (m + 11) (4 * e + c) ∧ aI M' (m + 12) (4 * e + c) = aI M (m + 12) (4 * e + c) ∧ aJ M' (m + 13) (4 * e + c) = aJ M (m + 13) (4 * e + c) ∧ aJ M' (m + 14) (4 * e + c) = aJ M (m + 14) (4 * e + c))) : MR m M' (R.set k q') := by
  have hkl : k < R.length := (List.getElem?_eq_some_iff.mp hq).1
  obtain ⟨y1, y2, y3, y4⟩ := mR
  refine ⟨by rw [h773, List.length_set]; exact y1, by rw [List.length_set]; exact y2, fun e r hr => ?_, fun e he1 he2 => ?_⟩
  · rw [List.getElem?_set] at hr
    by_cases e1 : k = e
    · subst e1
      rw [if_pos rfl, if_pos hkl] at hr
      cases hr
      exact hk
    · rw [if_neg e1] at hr
      have hel : e < R.length := (List.getElem?_eq_some_iff.mp hr).1
      obtain ⟨⟨z1, z2, z3⟩, ⟨z4, z5, z6⟩, z7⟩ := y3 e r hr
      obtain ⟨o1, o2, o3, o4, o5⟩ := ho e (fun z => e1 z.symm)
      refine ⟨⟨z1, by rw [o1]; exact z2, fun p t ht => ?_⟩, ⟨z4, by rw [o2]; exact z5, fun c t ht => ?_⟩, by rw [o3 (by omega)]; exact z7⟩
      · have hp : p < r.1.length := (List.getElem?_eq_some_iff.mp ht).1
        obtain ⟨w1, w2, w3, w4⟩ := o4 p (by omega)
        rw [w1, w2, w3, w4]
        exact z3 p t ht
      · have hp : c < r.2.1.length := (List.getElem?_eq_some_iff.mp ht).1
        obtain ⟨w1, w2, w3, w4⟩ := o5 c (by omega)
        rw [w1, w2, w3, w4]
        exact z6 c t ht
  · rw [List.length_set] at he1
    obtain ⟨o1, o2, o3, o4, o5⟩ := ho e (by omega)
    rw [o1, o2, o3 he2]
    exact y4 e he1 he2
theorem XI.frR {K L : Nat → Prop} (h : XI x E R F W O T S jW jO M) (f : Fr x K L No No n M M1) (hK : ∀ k, K k → (64 ≤ k ∧ k ≤ 67) ∨ (512 ≤ k ∧ k ≤ 578)) (hL : ∀ l, L l → l = x + 2 ∨ (x + 57 < l ∧ (kd M (l - 1) = 9 ∨ (kd M (l - 2) = 9 ∧ kd M (l - 1) = 0)))) (hR' : XR x M1 R') : XI x E R' F W O T S jW jO M1 := by
  obtain ⟨⟨hB, hv, hLI⟩, h1, h2, h3, h4, h5, h6, h7⟩ := h
  have nK : ∀ (ks : List Nat), ks.all (fun k => decide (¬ ((64 ≤ k ∧ k ≤ 67) ∨ (512 ≤ k ∧ k ≤ 578)))) = true → ∀ k ∈ ks, ¬ K k := fun ks hks k hk q => by
    have a1 := of_decide_eq_true (List.all_eq_true.mp hks k hk)
    exact a1 (hK k q)
  have nL : ∀ l, x < l → l ≠ x + 2 → l ≤ x + 57 → ¬ L l := fun l h1 h2 h3 q => by have := hL l q; omega
  have nX : ∀ q ∈ xtab, ¬ K q.1 := fun q hq z => by
    have a1 : ∀ q ∈ xtab, 704 ≤ q.1 := by decide
    have a2 := hK _ z
    have := a1 q hq
    omega
  refine ⟨⟨hB.fr f nX (fun _ _ => id), f.v, f.li⟩, h1.fr f (nK _ (by decide)) (nL _ (by omega) (by omega) (by omega)) (fun a ha hk q => ?_), hR', h3.fr f (nK _ (by decide)) (nL _ (by omega) (by omega) (by omega)) (fun _ _ _ => ⟨id, id⟩), h4.fr hB f (nK _ (by decide)) (nL _ (by omega) (by omega) (by omega)) (fun _ _ _ => id), h5.fr hB f (nK _ (by decide)) (nL _ (by omega) (by omega) (by omega)) (fun _ _ _ => id), h6.fr f (nK _ (by decide)) (nL _ (by omega) (by omega) (by omega)) ⟨fun _ _ _ => id, fun _ _ => id⟩, h7.fr hB f (nK _ (by decide)) ⟨id, id⟩ id⟩
  rcases hL _ q with q | ⟨-, q⟩
  · omega
  · rw [Nat.add_sub_cancel, hk] at q
    omega
theorem cntR_app (q : TR) : cntR (R ++ [q]) = cntR R + (if q.2.2 = 0 then 0 else 1) := by
  unfold cntR
  rw [List.filter_append, List.length_append]
  congr 1
  by_cases h : q.2.2 = 0
  · rw [if_pos h, List.filter_cons_of_neg (by simp [h])]
    rfl
  · rw [if_neg h, List.filter_cons_of_pos (by simp [h])]
    rfl
theorem cntR_set {k : Nat} {q q' : TR} (hq : R[k]? = some q) (hs : q'.2.2 = q.2.2) : cntR (R.set k q') = cntR R := by
  unfold cntR
  have hk : k < R.length := (List.getElem?_eq_some_iff.mp hq).1
  have he : R[k] = q := (List.getElem?_eq_some_iff.mp hq).2
  rw [List.set_eq_take_append_cons_drop, if_pos hk]
  conv => rhs; rw [← List.take_append_drop k R, List.drop_eq_getElem_cons hk, he]
  rw [List.filter_append, List.filter_append, List.length_append, List.length_append]
  congr 1
  simp only [List.filter_cons, hs]
  split <;> simp
theorem awR (aw : AW E R F W [] T S jW jO) (h0 : wfR E.length F.length R') (h1 : R.length ≤ R'.length) (h2 : cntR R' = cntR R) : AW E R' F W [] T S jW jO := by
  obtain ⟨a1, a2, a3, a4, a5, a6⟩ := aw
  refine ⟨h0, fun f q hq => ⟨fun k c hc => ?_, (a2 f q hq).2⟩, a3, wfO.nil, fun l q hq => ⟨by have := (a5 l q hq).1; omega, (a5 l q hq).2⟩, ?_⟩
  · rcases (a2 f q hq).1 k c hc with ⟨r, z1, z2⟩ | z
    · exact Or.inl ⟨r, by omega, z2⟩
    · exact Or.inr z
  · obtain ⟨b1, b2, b3, b4, b5, b6, b7, b8, b9, b10⟩ := a6
    exact ⟨by rw [h2]; exact b1, b2, b3, b4, b5, b6, b7, b8, b9, fun i q _ hq => by simp at hq⟩
end OPR
