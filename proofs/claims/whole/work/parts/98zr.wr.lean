/-! KEEPING: the model's write -/
section OPS
variable {x : Nat} {E E' : List TE} {R R' : List TR} {F F' : List TF} {W W' : List TW} {O O' : List TO} {T T' : List TL} {S S' : TS} {jW jO jW' jO' n : Nat} {M M' M1 : Mem}
/-- nothing that was kept before a place changes -/
def UK (m to : Nat) (M M' : Mem) : Prop := (kd M' = kd M ∧ ln M' = ln M ∧ gR M' = gR M ∧ gI M' = gI M) ∧ CU m M M' ∧ (∀ i, i ∉ [35, 36, 39, 41] → aI M' (m + i) = aI M (m + i)) ∧ (∀ i, i ∉ [34, 37, 38] → aJ M' (m + i) = aJ M (m + i)) ∧ (∀ j, j < to → (aJ M' (m + 34) j = aJ M (m + 34) j ∧ aI M' (m + 35) j = aI M (m + 35) j ∧ aI M' (m + 36) j = aI M (m + 36) j) ∧ aI M' (m + 41) j = aI M (m + 41) j ∧ aJ M' (m + 37) j = aJ M (m + 37) j ∧ aI M' (m + 39) j = aI M (m + 39) j) ∧ ∀ j, j < 16 * to → aJ M' (m + 38) j = aJ M (m + 38) j
section UK
variable {m to : Nat}
theorem UK.rf : UK m to M M := ⟨⟨rfl, rfl, rfl, rfl⟩, CU.rf, fun _ _ => rfl, fun _ _ => rfl, fun _ _ => ⟨⟨rfl, rfl, rfl⟩, rfl, rfl, rfl⟩, fun _ _ => rfl⟩
theorem UK.tr {M2 : Mem} (h : UK m to M M1) (g : UK m to M1 M2) : UK m to M M2 := by
  obtain ⟨⟨a1, a2, a3, a4⟩, b, c, d, e, f⟩ := h
  obtain ⟨⟨a1', a2', a3', a4'⟩, b', c', d', e', f'⟩ := g
  refine ⟨⟨a1'.trans a1, a2'.trans a2, a3'.trans a3, a4'.trans a4⟩, b.tr b', fun i hi => (c' i hi).trans (c i hi), fun i h1 => (d' i h1).trans (d i h1), fun j hj => ?_, fun j hj => (f' j hj).trans (f j hj)⟩
  obtain ⟨⟨y1, y2, y3⟩, y4, y5, y6⟩ := e j hj
  obtain ⟨⟨z1, z2, z3⟩, z4, z5, z6⟩ := e' j hj
  exact ⟨⟨z1.trans y1, z2.trans y2, z3.trans y3⟩, z4.trans y4, z5.trans y5, z6.trans y6⟩
theorem UK.mo {to' : Nat} (h : UK m to M M1) (hl : to' ≤ to) : UK m to' M M1 := by
  obtain ⟨a, b, c, d, e, f⟩ := h
  exact ⟨a, b, c, d, fun j hj => e j (by omega), fun j hj => f j (by omega)⟩
theorem UV.uk (h : UV m to M M1) : UK m to M M1 := by
  obtain ⟨a, b, c, d, e, f⟩ := h
  have n39 : ∀ i, i ∉ [35, 36, 39, 41] → i ≠ 39 := fun i hi z => hi (by rw [z]; decide)
  have n37 : ∀ i, i ∉ [34, 37, 38] → i ≠ 37 ∧ i ≠ 38 := fun i hi => ⟨fun z => hi (by rw [z]; decide), fun z => hi (by rw [z]; decide)⟩
  exact ⟨a, b, fun i hi => c i (n39 i hi), fun i hi => d i (n37 i hi).1 (n37 i hi).2, fun j hj => ⟨⟨by rw [d 34 (by omega) (by omega)], by rw [c 35 (by omega)], by rw [c 36 (by omega)]⟩, by rw [c 41 (by omega)], (e j hj).2, (e j hj).1⟩, f⟩
theorem UK.wI {k p : Nat} {v : Int32} (h : UK m to M M1) (hk : k = 35 ∨ k = 36 ∨ k = 41) (hp : to ≤ p) : UK m to M (wI M1 (m + k) p v) := by
  refine h.tr ⟨⟨rfl, rfl, rfl, rfl⟩, CU.rf.wI (by omega), fun i hi => ?_, fun _ _ => rfl, fun j hj => ⟨⟨rfl, ?_, ?_⟩, ?_, rfl, ?_⟩, fun _ _ => rfl⟩
  · have : i ≠ k := fun z => hi (by rw [z]; rcases hk with q | q | q <;> (rw [q]; decide))
    rw [aI_wI, up1_no (by omega)]
  · rw [aI_wI]
    by_cases c : k = 35
    · subst c; rw [up1_at, up1_no (by omega)]
    · rw [up1_no (by omega)]
  · rw [aI_wI]
    by_cases c : k = 36
    · subst c; rw [up1_at, up1_no (by omega)]
    · rw [up1_no (by omega)]
  · rw [aI_wI]
    by_cases c : k = 41
    · subst c; rw [up1_at, up1_no (by omega)]
    · rw [up1_no (by omega)]
  · rw [aI_wI, up1_no (by omega)]
theorem UK.w34 {p : Nat} {v : Int64} (h : UK m to M M1) (hp : to ≤ p) : UK m to M (wJ M1 (m + 34) p v) := by
  refine h.tr ⟨⟨rfl, rfl, rfl, rfl⟩, CU.rf.wJ (by omega), fun _ _ => rfl, fun i hi => ?_, fun j hj => ⟨⟨?_, rfl, rfl⟩, rfl, ?_, rfl⟩, fun j hj => ?_⟩
  · have : i ≠ 34 := fun z => hi (by rw [z]; decide)
    rw [aJ_wJ, up1_no (by omega)]
  · rw [aJ_wJ, up1_at, up1_no (by omega)]
  · rw [aJ_wJ, up1_no (by omega)]
  · rw [aJ_wJ, up1_no (by omega)]
theorem MB.uk (h : MB m M) (u : UK m to M M') : MB m M' := by
  obtain ⟨⟨u1, u2, u3, -⟩, -⟩ := u
  exact ⟨by rw [u1]; exact h.1, fun q hq => by rw [u1, u2, u3]; exact h.2 q hq⟩
theorem ME.uk (h : ME m M E) (u : UK m to M M') : ME m M' E := by
  obtain ⟨⟨-, -, -, u4⟩, -, c, d, -⟩ := u
  exact h.cg (by rw [u4]) (c _ (by decide)) (c _ (by decide)) (c _ (by decide)) (c _ (by decide)) (c _ (by decide)) (d _ (by decide))
theorem MR.uk (h : MR m M R) (u : UK m to M M') : MR m M' R := by
  obtain ⟨⟨-, -, -, u4⟩, -, c, d, -⟩ := u
  exact h.cg (by rw [u4]) (c _ (by decide)) (c _ (by decide)) (c _ (by decide)) (c _ (by decide)) (c _ (by decide)) (c _ (by decide)) (c _ (by decide)) (d _ (by decide)) (d _ (by decide)) (d _ (by decide)) (d _ (by decide))
theorem MW.uk (h : MW m M W) (u : UK m to M M') : MW m M' W := by
  obtain ⟨⟨-, -, -, u4⟩, -, c, d, -⟩ := u
  exact h.cg (by rw [u4]) (c _ (by decide)) (c _ (by decide)) (d _ (by decide))
end UK
/-- what the model has kept at a place -/
def PK (m to : Nat) (M : Mem) (t : TQ) : Prop := aJ M (m + 34) to = t.1 ∧ aI M (m + 35) to = t.2.1 ∧ (8 ≤ t.2.1 → aI M (m + 36) to = t.2.2.1) ∧ (t.2.1 < 8 ∨ t.2.1 = 11 → aJ M (m + 37) to = t.2.2.2.1) ∧ (t.2.1 = 8 ∨ t.2.1 = 10 → (aJ M (m + 37) to < 0 ↔ t.2.2.2.1 < 0)) ∧ aI M (m + 39) to = nI t.2.2.2.2.1.length ∧ t.2.2.2.2.1.length ≤ 16 ∧ (∀ (i : Nat) (v : Int64), t.2.2.2.2.1[i]? = some v → aJ M (m + 38) (16 * to + i) = v) ∧ aI M (m + 41) to = t.2.2.2.2.2
theorem PK.uk {m to to' : Nat} {t : TQ} (h : PK m to' M t) (u : UK m to M M') (hl : to' < to) : PK m to' M' t := by
  obtain ⟨h1, h2, h3, h4, h5, h6, h7, h8, h9⟩ := h
  obtain ⟨-, -, -, -, e, f⟩ := u
  obtain ⟨⟨z1, z2, z3⟩, z4, z5, z6⟩ := e to' hl
  refine ⟨by rw [z1]; exact h1, by rw [z2]; exact h2, fun q => by rw [z3]; exact h3 q, fun q => by rw [z5]; exact h4 q, fun q => by rw [z5]; exact h5 q, by rw [z6]; exact h6, h7, fun i v hi => ?_, by rw [z4]; exact h9⟩
  have hil : i < t.2.2.2.2.1.length := (List.getElem?_eq_some_iff.mp hi).1
  rw [f _ (by omega)]
  exact h8 i v hi
theorem ML_new {m : Nat} {nl : TL} (mL : ML m M T) (h64 : T.length < 64) (hl6 : nl.2.2.1.length ≤ 6) (e813 : gI M' 813 m = nI (T.length + 1)) (old : ∀ l, l < T.length → aI M' (m + 31) l = aI M (m + 31) l ∧ aI M' (m + 32) l = aI M (m + 32) l ∧ aI M' (m + 33) l = aI M (m + 33) l ∧ aI M' (m + 40) l = aI M (m + 40) l) (new : aI M' (m + 31) T.length = nI nl.1 ∧ aI M' (m + 32) T.length = nl.2.1 ∧ aI M' (m + 33) T.length = nI nl.2.2.1.length ∧ aI M' (m + 40) T.length = nl.2.2.2) (hk : ∀ (to : Nat) (t : TQ), to < 6 * T.length → PK m to M t → PK m to M' t) (hp : ∀ (p : Nat) (t : TQ), nl.2.2.1[p]? = some t → PK m (6 * T.length + p) M' t) : ML m M' (T ++ [nl]) := by
  obtain ⟨y1, y2, y3⟩ := mL
  refine ⟨by rw [e813, List.length_append]; rfl, by rw [List.length_append]; simp only [List.length_cons, List.length_nil]; omega, fun l q hq => ?_⟩
  by_cases c : l < T.length
  · rw [List.getElem?_append_left c] at hq
    obtain ⟨z1, z2, z3, z4, z5, z6⟩ := y3 l q hq
    obtain ⟨o1, o2, o3, o4⟩ := old l c
    refine ⟨z1, by rw [o1]; exact z2, by rw [o2]; exact z3, by rw [o3]; exact z4, by rw [o4]; exact z5, fun p t ht => ?_⟩
    have hpl : p < q.2.2.1.length := (List.getElem?_eq_some_iff.mp ht).1
    exact hk (6 * l + p) t (by omega) (z6 p t ht)
  · rw [List.getElem?_append_right (by omega)] at hq
    have : l - T.length < 1 := (List.getElem?_eq_some_iff.mp hq).1
    rw [show l - T.length = 0 by omega] at hq
    have hq : nl = q := Option.some.inj hq
    subst hq
    rw [show l = T.length by omega]
    exact ⟨hl6, new.1, new.2.1, new.2.2.1, new.2.2.2, fun p t ht => hp p t ht⟩
theorem m_wr67 {m o l : Nat} {q : TO} {rc : TR} (aw : wfR E.length F.length R) (hrc : R[q.1]? = some rc) (hvl : q.2.1.length = rc.1.length) (hval : ∀ (p : Nat) (t : TP) (v : Int64), rc.1[p]? = some t → q.2.1[p]? = some v → valOK E F W O o t.2.1 t.2.2.1 v) (ho : o < 164) (hl : l < 64) : ∀ (n p : Nat) (M : Mem), n + p = rc.1.length → MB m M → ME m M E → MR m M R → MW m M W → gI M 813 m = nI l → (∀ (i : Nat) (v : Int64), q.2.1[i]? = some v → aJ M (m + 26) (6 * o + i) = v) → (∀ (o' : Nat) (q : TO), o' < o → O[o']? = some q → aI M (m + 27) o' = q.2.2.1) → ∃ M', rn PP 214 67 [some (pR (some m)), some (pI (nI o)), some (pI (nI q.1)), some (pI (nI p)), none, none] [] M = some (none, sI M' 813 m (nI l + 1)) ∧ UK m (6 * l + p) M M' ∧ ∀ (j : Nat) (t : TP) (v : Int64), p ≤ j → rc.1[j]? = some t → q.2.1[j]? = some v → PK m (6 * l + j) M' (kq0 E W O t v) := by
  intro n
  induction n with
  | zero =>
    intro p M hp mB mE mR mW h813 hvals hline
    have hr : q.1 < R.length := (List.getElem?_eq_some_iff.mp hrc).1
    have hr6 := mR.2.1
    obtain ⟨⟨z1, z2, z3⟩, -⟩ := mR.2.2.1 q.1 rc hrc
    refine ⟨M, ?_, UK.rf, fun j t v h1 h2 => ?_⟩
    · rw [tX12_write_67]
      refine rd_i rfl mB.k (ix_m (n := q.1) mB.a5 rfl (by omega) (by omega) (it_t (by rw [z2]; exact nI_le (by omega) (by omega)) (rd_i rfl mB.k (rd_i rfl mB.k ?_))))
      rw [h813]
      exact bd_i rfl
    · have := (List.getElem?_eq_some_iff.mp h2).1
      omega
  | succ n ih =>
    intro p M hp mB mE mR mW h813 hvals hline
    have hr : q.1 < R.length := (List.getElem?_eq_some_iff.mp hrc).1
    have hr6 := mR.2.1
    obtain ⟨⟨z1, z2, z3⟩, -⟩ := mR.2.2.1 q.1 rc hrc
    obtain ⟨t, ht, -⟩ := drop_get (l := rc.1) (i := p) (by omega)
    obtain ⟨v, hv, -⟩ := drop_get (l := q.2.1) (i := p) (by omega)
    obtain ⟨w1, w2, w3, w4⟩ := z3 p t ht
    have i6 : (6 : Int32) * nI q.1 + nI p = nI (6 * q.1 + p) := m6 _ _
    have il : (6 : Int32) * gI M 813 m + nI p = nI (6 * l + p) := by rw [h813]; exact m6 _ _
    have u1 : UK m (6 * l + p) M (wJ M (m + 34) (6 * l + p) t.1) := UK.rf.w34 (Nat.le_refl _)
    have u2 : UK m (6 * l + p) M (wI (wJ M (m + 34) (6 * l + p) t.1) (m + 35) (6 * l + p) t.2.1) := u1.wI (Or.inl rfl) (Nat.le_refl _)
    have u3 : UK m (6 * l + p) M (wI (wI (wJ M (m + 34) (6 * l + p) t.1) (m + 35) (6 * l + p) t.2.1) (m + 36) (6 * l + p) t.2.2.1) := u2.wI (Or.inr (Or.inl rfl)) (Nat.le_refl _)
    have u4 : UK m (6 * l + p) M (wI (wI (wI (wJ M (m + 34) (6 * l + p) t.1) (m + 35) (6 * l + p) t.2.1) (m + 36) (6 * l + p) t.2.2.1) (m + 41) (6 * l + p) (-1)) := u3.wI (Or.inr (Or.inr rfl)) (Nat.le_refl _)
    have mB1 := mB.uk u1
    have mB2 := mB.uk u2
    have mB3 := mB.uk u3
    have mB4 := mB.uk u4
    have e2 := ((mR.uk u1).2.2.1 q.1 rc hrc).1.2.2 p t ht
    have e3 := ((mR.uk u2).2.2.1 q.1 rc hrc).1.2.2 p t ht
    have e4 := ((mR.uk u4).2.2.1 q.1 rc hrc).1.2.2 p t ht
    have g34 : aJ (wI (wI (wI (wJ M (m + 34) (6 * l + p) t.1) (m + 35) (6 * l + p) t.2.1) (m + 36) (6 * l + p) t.2.2.1) (m + 41) (6 * l + p) (-1)) (m + 34) (6 * l + p) = t.1 := by rw [aJ_wI, aJ_wI, aJ_wI, aJ_wJ, up1_at, up1_at]
    have g35 : aI (wI (wI (wI (wJ M (m + 34) (6 * l + p) t.1) (m + 35) (6 * l + p) t.2.1) (m + 36) (6 * l + p) t.2.2.1) (m + 41) (6 * l + p) (-1)) (m + 35) (6 * l + p) = t.2.1 := by rw [aI_wI, up1_no (by omega), aI_wI, up1_no (by omega), aI_wI, up1_at, up1_at]
    have g36 : aI (wI (wI (wI (wJ M (m + 34) (6 * l + p) t.1) (m + 35) (6 * l + p) t.2.1) (m + 36) (6 * l + p) t.2.2.1) (m + 41) (6 * l + p) (-1)) (m + 36) (6 * l + p) = t.2.2.1 := by rw [aI_wI, up1_no (by omega), aI_wI, up1_at, up1_at]
    have g41 : aI (wI (wI (wI (wJ M (m + 34) (6 * l + p) t.1) (m + 35) (6 * l + p) t.2.1) (m + 36) (6 * l + p) t.2.2.1) (m + 41) (6 * l + p) (-1)) (m + 41) (6 * l + p) = -1 := by rw [aI_wI, up1_at, up1_at]
    have step : ∀ {rr : Option Rt}, (clV (ex 215 7 [pR (some m), pI (nI (6 * l + p)), pI t.2.1, pI t.2.2.1, pJ v] (wI (wI (wI (wJ M (m + 34) (6 * l + p) t.1) (m + 35) (6 * l + p) t.2.1) (m + 36) (6 * l + p) t.2.2.1) (m + 41) (6 * l + p) (-1))) fun M42 => rn PP 214 67 [some (pR (some m)), some (pI (nI o)), some (pI (nI q.1)), some (pI (nI (p + 1))), none, none] [] M42) = rr → rn PP 214 67 [some (pR (some m)), some (pI (nI o)), some (pI (nI q.1)), some (pI (nI p)), none, none] [] M = rr := fun {rr} hr' => by
      rw [tX12_write_67]
      refine rd_i rfl mB.k (ix_m (n := q.1) mB.a5 rfl (by omega) (by omega) (it_f (by rw [z2]; exact nI_ge (by omega) (by omega)) (rd_i rfl mB.k (rd_i rfl mB.k (rd_i rfl mB.k (ix_m (n := 6 * q.1 + p) mB.a6 i6 (by omega) (by omega) (ix_m (n := 6 * l + p) mB.a34 il (by omega) (by omega) ?_)))))))
      rw [w1]
      refine bd_i (rd_i rfl mB1.k (rd_i rfl mB1.k (ix_m (n := 6 * q.1 + p) mB1.a7 i6 (by omega) (by omega) (ix_m (n := 6 * l + p) mB1.a35 il (by omega) (by omega) ?_))))
      rw [e2.2.1]
      refine bd_i (rd_i rfl mB2.k (rd_i rfl mB2.k (ix_m (n := 6 * q.1 + p) mB2.a8 i6 (by omega) (by omega) (ix_m (n := 6 * l + p) mB2.a36 il (by omega) (by omega) ?_))))
      rw [e3.2.2.1]
      refine bd_i (rd_i rfl mB3.k (ix_m (n := 6 * l + p) mB3.a41 il (by omega) (by omega) (bd_i (rd_i rfl mB4.k (ix_m (n := 6 * q.1 + p) mB4.a7 i6 (by omega) (by omega) (rd_i rfl mB4.k (ix_m (n := 6 * q.1 + p) mB4.a8 i6 (by omega) (by omega) (rd_i rfl mB4.k (ix_m (n := 6 * o + p) mB4.a26 (m6 o p) (by omega) (by omega) (rd_i rfl mB4.k ?_)))))))))) 
      rw [e4.2.1, e4.2.2.1, u4.2.2.2.1 26 (by decide), hvals p v hv, il, nI_1]
      exact hr'
    generalize wI (wI (wI (wJ M (m + 34) (6 * l + p) t.1) (m + 35) (6 * l + p) t.2.1) (m + 36) (6 * l + p) t.2.2.1) (m + 41) (6 * l + p) (-1) = Ma at u4 mB4 e4 g34 g35 g36 g41 step
    obtain ⟨Mb, e215, uv, v1, v2, v3, v4⟩ := m_wv (to := 6 * l + p) (o := o) (by omega) mB4 (mE.uk u4) (mW.uk u4) ((aw q.1 rc hrc).1 p t ht).1 (hval p t v ht hv) ho (fun o' q' h1 h2 => by rw [u4.2.2.1 27 (by decide)]; exact hline o' q' h1 h2)
    have u5 : UK m (6 * l + p) M Mb := u4.tr uv.uk
    obtain ⟨-, -, uvI, uvJ, -, -⟩ := id uv
    obtain ⟨M', r1, r2, r3⟩ := ih (p + 1) Mb (by omega) (mB.uk u5) (mE.uk u5) (mR.uk u5) (mW.uk u5) (by rw [u5.1.2.2.2]; exact h813) (fun i v hi => by rw [u5.2.2.2.1 26 (by decide)]; exact hvals i v hi) (fun o' q' h1 h2 => by rw [u5.2.2.1 27 (by decide)]; exact hline o' q' h1 h2)
    refine ⟨M', step (clV_i e215 r1), u5.tr (r2.mo (by omega)), fun j t' v' h1 h2 h3 => ?_⟩
    by_cases c : j = p
    · subst c
      rw [ht] at h2
      rw [hv] at h3
      cases h2
      cases h3
      have pk : PK m (6 * l + j) Mb (kq0 E W O t v) := ⟨by rw [uvJ 34 (by omega) (by omega)]; exact g34, by rw [uvI 35 (by omega)]; exact g35, fun _ => by rw [uvI 36 (by omega)]; exact g36, fun _ => v1, fun _ => by rw [v1]; exact Iff.rfl, v2, v3, v4, by rw [uvI 41 (by omega)]; exact g41⟩
      exact pk.uk r2 (by omega)
    · exact r3 j t' v' (by omega) h2 h3
theorem m_write {m o : Nat} {q : TO} {rc : TR} (hM : MI m E R F W O T S M) (aw : AW E R F W O T S jW jO) (hq : O[o]? = some q) (hrc : R[q.1]? = some rc) (hT : T.length < 64) : ∃ M', ex 214 6 [pR (some m), pI (nI o)] M = some (none, M') ∧ CU m M M' ∧ MI m E R F W (O.set o (q.1, q.2.1, nI T.length, q.2.2.2)) (T ++ [mkL E R W O S q]) S M' ∧ aI M' (m + 42) = aI M (m + 42) ∧ aI M' (m + 43) = aI M (m + 43) := by
  obtain ⟨mB, mE, mR, mF, mW, mO, mL, mS⟩ := id hM
  have hr : q.1 < R.length := (List.getElem?_eq_some_iff.mp hrc).1
  have ho : o < O.length := (List.getElem?_eq_some_iff.mp hq).1
  have hr6 := mR.2.1
  have hO164 := mO.2.1
  obtain ⟨⟨z1, z2, z3⟩, -⟩ := mR.2.2.1 q.1 rc hrc
  obtain ⟨y1, y2, y3, y4⟩ := mO.2.2 o q hq
  obtain ⟨rc', w1, hvl, -, hval⟩ := aw.2.2.2.1 o q hq
  rw [hrc] at w1
  cases w1
  have hl := mL.1
  have b1 : MB m (wI M (m + 27) o (nI T.length)) := mB.wI
  have b2 : MB m (wI (wI M (m + 27) o (nI T.length)) (m + 31) T.length (nI q.1)) := b1.wI
  have b3 : MB m (wI (wI (wI M (m + 27) o (nI T.length)) (m + 31) T.length (nI q.1)) (m + 32) T.length (nI S.2.2.2.2.2.1)) := b2.wI
  have b4 : MB m (wI (wI (wI (wI M (m + 27) o (nI T.length)) (m + 31) T.length (nI q.1)) (m + 32) T.length (nI S.2.2.2.2.2.1)) (m + 33) T.length (nI rc.1.length)) := b3.wI
  have run : ∀ {rr : Option Rt}, rn PP 214 67 [some (pR (some m)), some (pI (nI o)), some (pI (nI q.1)), some (pI 0), none, none] [] (wI (wI (wI (wI (wI M (m + 27) o (nI T.length)) (m + 31) T.length (nI q.1)) (m + 32) T.length (nI S.2.2.2.2.2.1)) (m + 33) T.length (nI rc.1.length)) (m + 40) T.length (-1)) = rr → ex 214 6 [pR (some m), pI (nI o)] M = rr := fun {rr} hr' => by
    rw [tX12_write]
    refine rd_i rfl mB.k (ix_m (n := o) mB.a25 rfl (by omega) (by omega) (rd_i rfl mB.k (rd_i rfl mB.k (ix_m (n := o) mB.a27 rfl (by omega) (by omega) ?_))))
    rw [y2, hl]
    refine bd_i (rd_i rfl b1.k (rd_i rfl b1.k (ix_m (n := T.length) b1.a31 (by rw [gI_wI]; exact hl) (by omega) (by omega) (bd_i (rd_i rfl b2.k (rd_i rfl b2.k (rd_i rfl b2.k (ix_m (n := T.length) b2.a32 (by rw [gI_wI, gI_wI]; exact hl) (by omega) (by omega) ?_)))))))) 
    rw [gI_wI, gI_wI, mS.2.2.2.2.2.2.1]
    refine bd_i (rd_i rfl b3.k (rd_i rfl b3.k (rd_i rfl b3.k (ix_m (n := q.1) b3.a5 rfl (by omega) (by omega) (ix_m (n := T.length) b3.a33 (by rw [gI_wI, gI_wI, gI_wI]; exact hl) (by omega) (by omega) ?_)))))
    rw [aI_wI, up1_no (by omega), aI_wI, up1_no (by omega), aI_wI, up1_no (by omega), z2]
    exact bd_i (rd_i rfl b4.k (rd_i rfl b4.k (ix_m (n := T.length) b4.a40 (by rw [gI_wI, gI_wI, gI_wI, gI_wI]; exact hl) (by omega) (by omega) (bd_i hr'))))
  have hI : ∀ i, i ∉ [27, 31, 32, 33, 40] → aI (wI (wI (wI (wI (wI M (m + 27) o (nI T.length)) (m + 31) T.length (nI q.1)) (m + 32) T.length (nI S.2.2.2.2.2.1)) (m + 33) T.length (nI rc.1.length)) (m + 40) T.length (-1)) (m + i) = aI M (m + i) := fun i hi => by
    have n : ∀ k, k ∈ [27, 31, 32, 33, 40] → m + i ≠ m + k := fun k hk z => hi (by rw [show i = k by omega]; exact hk)
    rw [aI_wI, up1_no (n 40 (by decide)), aI_wI, up1_no (n 33 (by decide)), aI_wI, up1_no (n 32 (by decide)), aI_wI, up1_no (n 31 (by decide)), aI_wI, up1_no (n 27 (by decide))]
  have hJ : aJ (wI (wI (wI (wI (wI M (m + 27) o (nI T.length)) (m + 31) T.length (nI q.1)) (m + 32) T.length (nI S.2.2.2.2.2.1)) (m + 33) T.length (nI rc.1.length)) (m + 40) T.length (-1)) = aJ M := by rw [aJ_wI, aJ_wI, aJ_wI, aJ_wI, aJ_wI]
  have hG : gI (wI (wI (wI (wI (wI M (m + 27) o (nI T.length)) (m + 31) T.length (nI q.1)) (m + 32) T.length (nI S.2.2.2.2.2.1)) (m + 33) T.length (nI rc.1.length)) (m + 40) T.length (-1)) = gI M := by rw [gI_wI, gI_wI, gI_wI, gI_wI, gI_wI]
  have h27 : aI (wI (wI (wI (wI (wI M (m + 27) o (nI T.length)) (m + 31) T.length (nI q.1)) (m + 32) T.length (nI S.2.2.2.2.2.1)) (m + 33) T.length (nI rc.1.length)) (m + 40) T.length (-1)) (m + 27) = up1 (aI M (m + 27)) o (nI T.length) := by rw [aI_wI, up1_no (by omega), aI_wI, up1_no (by omega), aI_wI, up1_no (by omega), aI_wI, up1_no (by omega), aI_wI, up1_at]
  have h31 : aI (wI (wI (wI (wI (wI M (m + 27) o (nI T.length)) (m + 31) T.length (nI q.1)) (m + 32) T.length (nI S.2.2.2.2.2.1)) (m + 33) T.length (nI rc.1.length)) (m + 40) T.length (-1)) (m + 31) = up1 (aI M (m + 31)) T.length (nI q.1) := by rw [aI_wI, up1_no (by omega), aI_wI, up1_no (by omega), aI_wI, up1_no (by omega), aI_wI, up1_at, aI_wI, up1_no (by omega)]
  have h32 : aI (wI (wI (wI (wI (wI M (m + 27) o (nI T.length)) (m + 31) T.length (nI q.1)) (m + 32) T.length (nI S.2.2.2.2.2.1)) (m + 33) T.length (nI rc.1.length)) (m + 40) T.length (-1)) (m + 32) = up1 (aI M (m + 32)) T.length (nI S.2.2.2.2.2.1) := by rw [aI_wI, up1_no (by omega), aI_wI, up1_no (by omega), aI_wI, up1_at, aI_wI, up1_no (by omega), aI_wI, up1_no (by omega)]
  have h33 : aI (wI (wI (wI (wI (wI M (m + 27) o (nI T.length)) (m + 31) T.length (nI q.1)) (m + 32) T.length (nI S.2.2.2.2.2.1)) (m + 33) T.length (nI rc.1.length)) (m + 40) T.length (-1)) (m + 33) = up1 (aI M (m + 33)) T.length (nI rc.1.length) := by rw [aI_wI, up1_no (by omega), aI_wI, up1_at, aI_wI, up1_no (by omega), aI_wI, up1_no (by omega), aI_wI, up1_no (by omega)]
  have h40 : aI (wI (wI (wI (wI (wI M (m + 27) o (nI T.length)) (m + 31) T.length (nI q.1)) (m + 32) T.length (nI S.2.2.2.2.2.1)) (m + 33) T.length (nI rc.1.length)) (m + 40) T.length (-1)) (m + 40) = up1 (aI M (m + 40)) T.length (-1) := by rw [aI_wI, up1_at, aI_wI, up1_no (by omega), aI_wI, up1_no (by omega), aI_wI, up1_no (by omega), aI_wI, up1_no (by omega)]
  have cu : CU m M (wI (wI (wI (wI (wI M (m + 27) o (nI T.length)) (m + 31) T.length (nI q.1)) (m + 32) T.length (nI S.2.2.2.2.2.1)) (m + 33) T.length (nI rc.1.length)) (m + 40) T.length (-1)) := ((((CU.rf.wI (by omega)).wI (by omega)).wI (by omega)).wI (by omega)).wI (by omega)
  have b5 : MB m (wI (wI (wI (wI (wI M (m + 27) o (nI T.length)) (m + 31) T.length (nI q.1)) (m + 32) T.length (nI S.2.2.2.2.2.1)) (m + 33) T.length (nI rc.1.length)) (m + 40) T.length (-1)) := b4.wI
  clear b1 b2 b3 b4
  generalize wI (wI (wI (wI (wI M (m + 27) o (nI T.length)) (m + 31) T.length (nI q.1)) (m + 32) T.length (nI S.2.2.2.2.2.1)) (m + 33) T.length (nI rc.1.length)) (m + 40) T.length (-1) = Ma at run hI hJ hG h27 h31 h32 h33 h40 cu b5
  have eE : ME m Ma E := mE.cg (by rw [hG]) (hI _ (by decide)) (hI _ (by decide)) (hI _ (by decide)) (hI _ (by decide)) (hI _ (by decide)) (by rw [hJ])
  have eR : MR m Ma R := mR.cg (by rw [hG]) (hI _ (by decide)) (hI _ (by decide)) (hI _ (by decide)) (hI _ (by decide)) (hI _ (by decide)) (hI _ (by decide)) (hI _ (by decide)) (by rw [hJ]) (by rw [hJ]) (by rw [hJ]) (by rw [hJ])
  have eW : MW m Ma W := mW.cg (by rw [hG]) (hI _ (by decide)) (hI _ (by decide)) (by rw [hJ])
  obtain ⟨Mb, r1, u, r3⟩ := m_wr67 (l := T.length) (E := E) (W := W) (O := O) (F := F) aw.1 hrc hvl hval (show o < 164 by omega) hT rc.1.length 0 Ma (by omega) b5 eE eR eW (by rw [hG]; exact hl) (fun i v hi => by rw [hJ]; exact y4 i v hi) (fun o' q' h1 h2 => by rw [h27, up1_no (by omega)]; exact (mO.2.2 o' q' h2).2.2.1)
  rw [Nat.add_zero] at u
  obtain ⟨⟨k1, k2, k3, k4⟩, cu2, uI, uJ, uk, uk8⟩ := id u
  have fI : ∀ i, i ∉ [27, 31, 32, 33, 40, 35, 36, 39, 41] → aI (sI Mb 813 m (nI T.length + 1)) (m + i) = aI M (m + i) := fun i hi => by
    rw [aI_sI, uI i (fun z => hi (by simp at z ⊢; omega)), hI i (fun z => hi (by simp at z ⊢; omega))]
  have fJ : ∀ i, i ∉ [34, 37, 38] → aJ (sI Mb 813 m (nI T.length + 1)) (m + i) = aJ M (m + i) := fun i hi => by rw [aJ_sI, uJ i hi, hJ]
  have fG : ∀ k, k ≠ 813 → gI (sI Mb 813 m (nI T.length + 1)) k m = gI M k m := fun k hk => by rw [gI_sI, up2_ne hk, k4, hG]
  refine ⟨_, run r1, (cu.tr cu2).bI (by omega), ⟨(b5.uk u).sI, ?_, ?_, ?_, ?_, ?_, ?_, ?_⟩, fI 42 (by decide), fI 43 (by decide)⟩
  · exact mE.cg (fG _ (by omega)) (fI _ (by decide)) (fI _ (by decide)) (fI _ (by decide)) (fI _ (by decide)) (fI _ (by decide)) (fJ _ (by decide))
  · exact mR.cg (fG _ (by omega)) (fI _ (by decide)) (fI _ (by decide)) (fI _ (by decide)) (fI _ (by decide)) (fI _ (by decide)) (fI _ (by decide)) (fI _ (by decide)) (fJ _ (by decide)) (fJ _ (by decide)) (fJ _ (by decide)) (fJ _ (by decide))
  · exact mF.cg (fG _ (by omega)) (fI _ (by decide)) (fI _ (by decide))
  · exact mW.cg (fG _ (by omega)) (fI _ (by decide)) (fI _ (by decide)) (fJ _ (by decide))
  · refine ⟨by rw [fG _ (by omega), List.length_set]; exact mO.1, by rw [List.length_set]; exact hO164, fun r p hp => ?_⟩
    rw [fI 25 (by decide), fJ 26 (by decide), aI_sI, uI 27 (by decide), h27]
    rw [List.getElem?_set] at hp
    by_cases c : o = r
    · subst c
      rw [if_pos rfl, if_pos ho] at hp
      have hp : (q.1, q.2.1, nI T.length, q.2.2.2) = p := Option.some.inj hp
      subst hp
      exact ⟨y1, y2, up1_at, y4⟩
    · rw [if_neg c] at hp
      rw [up1_no (fun z => c z.symm)]
      exact mO.2.2 r p hp
  · have g31 : aI (sI Mb 813 m (nI T.length + 1)) (m + 31) = up1 (aI M (m + 31)) T.length (nI q.1) := by rw [aI_sI, uI 31 (by decide), h31]
    have g32 : aI (sI Mb 813 m (nI T.length + 1)) (m + 32) = up1 (aI M (m + 32)) T.length (nI S.2.2.2.2.2.1) := by rw [aI_sI, uI 32 (by decide), h32]
    have g33 : aI (sI Mb 813 m (nI T.length + 1)) (m + 33) = up1 (aI M (m + 33)) T.length (nI rc.1.length) := by rw [aI_sI, uI 33 (by decide), h33]
    have g40 : aI (sI Mb 813 m (nI T.length + 1)) (m + 40) = up1 (aI M (m + 40)) T.length (-1) := by rw [aI_sI, uI 40 (by decide), h40]
    refine ML_new mL hT (by rw [mkL_len hrc hvl]; exact z1) (by rw [gI_sI, up2_at, nI_1]) (fun l hl => ?_) ?_ (fun to t hto pk => ?_) (fun p r hp => ?_)
    · rw [g31, g32, g33, g40, up1_no (by omega), up1_no (by omega), up1_no (by omega), up1_no (by omega)]
      exact ⟨rfl, rfl, rfl, rfl⟩
    · rw [g31, g32, g33, g40, up1_at, up1_at, up1_at, up1_at, mkL_len hrc hvl]
      exact ⟨rfl, rfl, rfl, rfl⟩
    · have pa : PK m to Ma t := by
        unfold PK
        rw [hJ, hI 35 (by decide), hI 36 (by decide), hI 39 (by decide), hI 41 (by decide)]
        exact pk
      have pb : PK m to Mb t := pa.uk u hto
      exact pb
    · obtain ⟨t, v, ht, hv, rfl⟩ := mkL_at hrc hp
      exact r3 p t v (Nat.zero_le _) ht hv
  · exact mS.cg (fG _ (by omega)) (fG _ (by omega)) (fG _ (by omega)) (fG _ (by omega)) (fG _ (by omega)) (fG _ (by omega)) (fG _ (by omega)) (fG _ (by omega)) (fG _ (by omega)) (fG _ (by omega)) (fI _ (by decide)) (fJ _ (by decide))
end OPS
