/-! LOADING: a line is loaded; the class's steps -/
section OPS
variable {x : Nat} {E E' : List TE} {R R' : List TR} {F F' : List TF} {W W' : List TW} {O O' : List TO} {T T' : List TL} {S S' : TS} {jW jO jW' jO' n : Nat} {M M' M1 : Mem}
def q_ld (q : TL) (v : Int32) : TL := (q.1, q.2.1, q.2.2.1, v)
theorem ML.set40 {m l : Nat} {q : TL} {v : Int32} (h : ML m M T) (hq : T[l]? = some q) : ML m (wI M (m + 40) l v) (T.set l (q_ld q v)) := by
  obtain ⟨y1, y2, y3⟩ := h
  have hl : l < T.length := (List.getElem?_eq_some_iff.mp hq).1
  have n40 : ∀ i, i ≠ 40 → aI (wI M (m + 40) l v) (m + i) = aI M (m + i) := fun i hi => by rw [aI_wI, up1_no (by omega)]
  refine ⟨by rw [gI_wI, List.length_set]; exact y1, by rw [List.length_set]; exact y2, fun l' r hr => ?_⟩
  rw [List.getElem?_set] at hr
  rw [n40 31 (by omega), n40 32 (by omega), n40 33 (by omega), n40 41 (by omega), n40 35 (by omega), n40 36 (by omega), n40 39 (by omega), aJ_wI, aI_wI, up1_at]
  by_cases c : l = l'
  · subst c
    rw [if_pos rfl, if_pos hl] at hr
    have hr : q_ld q v = r := Option.some.inj hr
    subst hr
    obtain ⟨z1, z2, z3, z4, z5, z6⟩ := y3 l q hq
    exact ⟨z1, z2, z3, z4, by rw [up1_at]; rfl, z6⟩
  · rw [if_neg c] at hr
    obtain ⟨z1, z2, z3, z4, z5, z6⟩ := y3 l' r hr
    exact ⟨z1, z2, z3, z4, by rw [up1_no (fun z => c z.symm)]; exact z5, z6⟩
theorem MI.set40 {m l : Nat} {q : TL} {v : Int32} (h : MI m E R F W O T S M) (hq : T[l]? = some q) : MI m E R F W O (T.set l (q_ld q v)) S (wI M (m + 40) l v) := by
  obtain ⟨h1, h2, h3, h4, h5, h6, h7, h8⟩ := h
  have a : ∀ i, i ≠ 40 → aI (wI M (m + 40) l v) (m + i) = aI M (m + i) := fun i hi => by rw [aI_wI, up1_no (by omega)]
  exact ⟨h1.wI, h2.cg rfl (a _ (by omega)) (a _ (by omega)) (a _ (by omega)) (a _ (by omega)) (a _ (by omega)) rfl, h3.cg rfl (a _ (by omega)) (a _ (by omega)) (a _ (by omega)) (a _ (by omega)) (a _ (by omega)) (a _ (by omega)) (a _ (by omega)) rfl rfl rfl rfl, h4.cg rfl (a _ (by omega)) (a _ (by omega)), h5.cg rfl (a _ (by omega)) (a _ (by omega)) rfl, h6.cg rfl (a _ (by omega)) (a _ (by omega)) rfl, h7.set40 hq, h8.cg rfl rfl rfl rfl rfl rfl rfl rfl rfl rfl (a _ (by omega)) rfl⟩
theorem c_setLd {as : List Nat} {ad : Nat → Nat → Nat} {l a : Nat} {q : TL} {v : Int32} (hX : XI x E R F W O T S jW jO M) (hla : XLa x M as ad T) (ha : as[l]? = some a) (hq : T[l]? = some q) : XI x E R F W O (T.set l (q_ld q v)) S jW jO (sI M 389 a v) ∧ XLa x (sI M 389 a v) as ad (T.set l (q_ld q v)) ∧ Fr x (fun k => k = 389) No No No 0 M (sI M 389 a v) := by
  have f : Fr x (fun k => k = 389) No No No 0 M (sI M 389 a v) := (Fr.rf hX.1.2.1 hX.1.2.2).bI (Or.inl ⟨by omega, rfl⟩)
  have gi : GI (fun k b => k = 389 ∧ b = a) M (sI M 389 a v) := GI.rf.sI ⟨rfl, rfl⟩
  obtain ⟨hxa, c1, c2, c3, c4, c5, c6, c7, pq, g1, g2, g3, g4, g5⟩ := hla.2.2.2.2 l a q ha hq
  have nj : ∀ j ∈ [321, 322, 325], j ≠ 389 := by decide
  have hn : XLa x (sI M 389 a v) as ad (T.set l (q_ld q v)) := by
    refine XLa.set hla ha hq (f.ls id) rfl ?_ (fun l' a' r hne hna hdis hl' hr hc => ?_)
    · refine ⟨c1, by rw [gI_sI, up2_ne (by omega)]; exact c2, by rw [gI_sI, up2_ne (by omega)]; exact c3, by rw [gI_sI, up2_at]; rfl, c5, c6, c7, pq, g1, g2, g3, g4, fun p r hr => ?_⟩
      obtain ⟨y1, y2, y3⟩ := g5 p r hr
      exact ⟨y1, y2, y3.gi gi (fun j hj z => nj j hj z.1)⟩
    · exact hc.gi gi (fun j hj z => hna z.2) (fun p hp j hj z => nj j hj z.1)
  exact ⟨hX.frL f (fun k q => by omega) (fun _ q => q.elim) (fun _ q => q.elim) hn.xl, hn, f⟩
theorem cntL_cons (t : TL) : cntL (t :: T) = (if t.2.2.2 = -1 then 0 else 1) + cntL T := by
  unfold cntL
  rw [List.filter_cons]
  by_cases c : t.2.2.2 = -1
  · have e : (t.2.2.2 != -1) = false := by rw [c]; rfl
    rw [e, if_pos c]
    simp
  · have e : (t.2.2.2 != -1) = true := bne_iff_ne.mpr c
    rw [e, if_neg c]
    simp
    omega
theorem cntL_ld {l : Nat} {q : TL} {v : Int32} (hq : T[l]? = some q) (hu : q.2.2.2 = -1) (hv : v ≠ -1) : cntL (T.set l (q_ld q v)) = cntL T + 1 := by
  induction T generalizing l with
  | nil => exact nomatch hq
  | cons t T ih =>
    cases l with
    | zero =>
      have hq : t = q := Option.some.inj hq
      subst hq
      rw [List.set_cons_zero, cntL_cons, cntL_cons, if_neg (show ¬ (q_ld t v).2.2.2 = -1 from hv), if_pos hu]
      omega
    | succ l =>
      have hq : T[l]? = some q := hq
      rw [List.set_cons_succ, cntL_cons, cntL_cons, ih hq]
      omega
theorem cntW_ld {l : Nat} {q : TL} {v : Int32} (hq : T[l]? = some q) : cntW (T.set l (q_ld q v)) = cntW T := by
  unfold cntW
  induction T generalizing l with
  | nil => exact nomatch hq
  | cons t T ih =>
    cases l with
    | zero =>
      have hq : t = q := Option.some.inj hq
      subst hq
      rfl
    | succ l =>
      have hq : T[l]? = some q := hq
      rw [List.set_cons_succ, List.map_cons, List.map_cons, List.sum_cons, List.sum_cons, ih hq]
/-- those that wait are not loaded: no more than are left -/
theorem dep_le : ∀ (T : List TL) (k : Nat) (ds : List Nat), ds.Pairwise (fun a b => a < b) → (∀ i ∈ ds, k ≤ i ∧ ∃ q, T[i - k]? = some q ∧ q.2.2.2 = -1) → ds.length + cntL T ≤ T.length := by
  intro T
  induction T with
  | nil =>
    intro k ds hp h
    cases ds with
    | nil => exact Nat.le_refl _
    | cons d ds =>
      obtain ⟨-, q, hq, -⟩ := h d List.mem_cons_self
      exact nomatch hq
  | cons t T ih =>
    intro k ds hp h
    rw [cntL_cons, List.length_cons]
    have up : ∀ ds' : List Nat, (∀ i ∈ ds', i ∈ ds ∧ k < i) → ∀ i ∈ ds', k + 1 ≤ i ∧ ∃ q, T[i - (k + 1)]? = some q ∧ q.2.2.2 = -1 := fun ds' hd i hi => by
      obtain ⟨m1, m2⟩ := hd i hi
      obtain ⟨-, q, hq, hl⟩ := h i m1
      refine ⟨m2, q, ?_, hl⟩
      rw [show i - k = (i - (k + 1)) + 1 by omega] at hq
      exact hq
    cases ds with
    | nil =>
      have := cntL_le T
      split <;> (simp; omega)
    | cons d ds =>
      rw [List.pairwise_cons] at hp
      obtain ⟨hd, q, hq, hl⟩ := h d List.mem_cons_self
      by_cases c : d = k
      · rw [c, Nat.sub_self] at hq
        have hq : t = q := Option.some.inj hq
        rw [if_pos (by rw [hq]; exact hl), List.length_cons]
        have := ih (k + 1) ds hp.2 (up ds (fun i hi => ⟨List.mem_cons_of_mem _ hi, by have := hp.1 i hi; omega⟩))
        omega
      · have := ih (k + 1) (d :: ds) (List.pairwise_cons.mpr hp) (up (d :: ds) (fun i hi => ⟨hi, by
          rcases List.mem_cons.mp hi with z | z
          · omega
          · have := hp.1 i z; omega⟩))
        split <;> omega
/-- the line that has to be loaded first -/
theorem c_ahead {as : List Nat} {ad : Nat → Nat → Nat} {l a ka : Nat} {q : TL} {s : TP} (hX : XI x E R F W O T S jW jO M) (aw : AW E R F W O T S jW jO) (hla : XLa x M as ad T) (ha : as[l]? = some a) (hq : T[l]? = some q) (hp : cP M s ka) : (∃ (pk : Nat) (t : TQ) (l' : Nat) (q' : TL), (fndQ q.2.2.1 s.1 0 = some pk ∧ q.2.2.1[pk]? = some t ∧ t.2.1 = 11 ∧ s.2.1 = 11 ∧ t.2.2.2.1 = lN l' ∧ l' < l ∧ T[l']? = some q' ∧ q'.2.2.2 = -1) ∧ ex 147 5 [pR (some x), pR (some a), pR (some ka)] M = some (some (pI (nI l')), M)) ∨ (ex 147 5 [pR (some x), pR (some a), pR (some ka)] M = some (some (pI (-1)), M) ∧ ∀ (pk : Nat) (t : TQ), fndQ q.2.2.1 s.1 0 = some pk → q.2.2.1[pk]? = some t → t.2.1 = 11 → s.2.1 = 11 → t.2.2.2.1 = -1 ∨ ∃ (l' : Nat) (q' : TL), t.2.2.2.1 = lN l' ∧ l' < l ∧ T[l']? = some q' ∧ q'.2.2.2 ≠ -1) := by
  obtain ⟨⟨hB, hv, hL⟩, -, -, -, -, -, -, -⟩ := id hX
  obtain ⟨hxa, cl⟩ := hla.2.2.2.2 l a q ha hq
  have hl : l < T.length := (List.getElem?_eq_some_iff.mp hq).1
  have h1002 := hla.len
  have e60 := c_keptAs cl s.1
  have pre : ∀ {rr : Option Rt}, (if ((fndQ q.2.2.1 s.1 0).map (ad l)) = none then some (some (pI (-1)), M) else rd ((fndQ q.2.2.1 s.1 0).map (ad l)) 5 M fun a5 => if ¬ gI M 321 a5 = 11 then some (some (pI (-1)), M) else rd (some ka) 8 M fun a6 => if gI M 513 a6 = 11 then rd ((fndQ q.2.2.1 s.1 0).map (ad l)) 5 M fun a7 => rd (some x) 11 M fun a9 => clR (ex 112 3 [pR (some a9), pJ (gJ M 323 a7)] M) fun r10 M8 => if r10 = none then some (some (pI (-1)), M8) else rd r10 6 M8 fun a11 => if gI M8 389 a11 = (-1) then rd ((fndQ q.2.2.1 s.1 0).map (ad l)) 5 M8 fun a12 => some (some (pI ((gJ M8 323 a12).toInt32)), M8) else some (some (pI (-1)), M8) else some (some (pI (-1)), M)) = rr → ex 147 5 [pR (some x), pR (some a), pR (some ka)] M = rr := fun {rr} h => by
    rw [tX11_lineAhead]
    refine rd_i rfl hp.1 (rd_i rfl cl.1 ?_)
    rw [hp.2.1]
    exact clR_i e60 h
  cases hk : fndQ q.2.2.1 s.1 0 with
  | none =>
    rw [hk] at pre
    exact Or.inr ⟨pre (it_t rfl rfl), fun pk t h => nomatch h⟩
  | some pk =>
    rw [hk] at pre
    obtain ⟨t, -, ht, -⟩ := fndQ_some _ _ _ hk
    rw [Nat.sub_zero] at ht
    have kok := (aw.2.2.2.2.1 l q hq).2.2 pk t ht
    obtain ⟨xq, cq⟩ := hla.q ha hq ht
    have hd : Option.map (ad l) (some pk) = some (ad l pk) := rfl
    rw [hd] at pre
    have same : ∀ {pk' : Nat} {t' : TQ}, some pk = some pk' → q.2.2.1[pk']? = some t' → t' = t := fun {pk' t'} h1 h2 => by
      cases h1
      rw [ht] at h2
      exact (Option.some.inj h2).symm
    by_cases t11 : t.2.1 = 11
    · by_cases s11 : s.2.1 = 11
      · have e323 : gJ M 323 (ad l pk) = t.2.2.2.1 := cq.2.2.2.2.1 (Or.inr t11)
        rcases kok.2.2.2.2.1 t11 with z | ⟨l', hl', z⟩
        · refine Or.inr ⟨pre (it_f (fun z => nomatch z) (rd_i rfl cq.1 (it_f (not_not_intro (cq.2.2.1.trans t11)) (rd_i rfl hp.1 (it_t (hp.2.2.1.trans s11) (rd_i rfl cq.1 (rd_i rfl hB.k ?_))))))), fun pk' t' h1 h2 _ _ => Or.inl (by rw [same h1 h2]; exact z)⟩
          rw [e323, z]
          exact clR_i (c_lineAt_no hB hla (Or.inl (by decide))) (it_t rfl rfl)
        · obtain ⟨q', hq'⟩ : ∃ q', T[l']? = some q' := ⟨_, List.getElem?_eq_getElem (by omega)⟩
          obtain ⟨a', ha', e112, hxa', cl'⟩ := c_lineAt hB hla hq'
          have run : ∀ {rr : Option Rt}, (if q'.2.2.2 = (-1) then some (some (pI (nI l')), M) else some (some (pI (-1)), M)) = rr → ex 147 5 [pR (some x), pR (some a), pR (some ka)] M = rr := fun {rr} h => by
            refine pre (it_f (fun z => nomatch z) (rd_i rfl cq.1 (it_f (not_not_intro (cq.2.2.1.trans t11)) (rd_i rfl hp.1 (it_t (hp.2.2.1.trans s11) (rd_i rfl cq.1 (rd_i rfl hB.k ?_)))))))
            rw [e323, z]
            refine clR_i e112 (it_f (fun z => nomatch z) (rd_i rfl cl'.1 ?_))
            rw [cl'.2.2.2.1]
            by_cases u : q'.2.2.2 = -1
            · rw [if_pos u] at h ⊢
              refine rd_i rfl cq.1 ?_
              rw [e323, z, lN_i]
              exact h
            · rw [if_neg u] at h ⊢
              exact h
          by_cases u : q'.2.2.2 = -1
          · exact Or.inl ⟨pk, t, l', q', ⟨rfl, ht, t11, s11, z, hl', hq', u⟩, run (it_t u rfl)⟩
          · exact Or.inr ⟨run (it_f u rfl), fun pk' t' h1 h2 _ _ => Or.inr ⟨l', q', by rw [same h1 h2]; exact z, hl', hq', u⟩⟩
      · exact Or.inr ⟨pre (it_f (fun z => nomatch z) (rd_i rfl cq.1 (it_f (not_not_intro (cq.2.2.1.trans t11)) (rd_i rfl hp.1 (it_f (fun z => s11 (hp.2.2.1.symm.trans z)) rfl))))), fun _ _ _ _ _ h => absurd h s11⟩
    · exact Or.inr ⟨pre (it_f (fun z => nomatch z) (rd_i rfl cq.1 (it_t (fun z => t11 (cq.2.2.1.symm.trans z)) rfl))), fun pk' t' h1 h2 h3 _ => absurd (by rw [← same h1 h2]; exact h3) t11⟩
end OPS
