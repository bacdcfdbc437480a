/-! LOADING: rows -/
section OPS
variable {x : Nat} {E E' : List TE} {R R' : List TR} {F F' : List TF} {W W' : List TW} {O O' : List TO} {T T' : List TL} {S S' : TS} {jW jO jW' jO' n : Nat} {M M' M1 : Mem}
theorem XLa.fr {as : List Nat} {ad : Nat → Nat → Nat} {K L AI AJ : Nat → Prop} (h : XLa x M as ad T) (f : Fr x K L AI AJ n M M') (hK : ∀ k ∈ [320, 321, 322, 323, 324, 325, 384, 385, 386, 387, 389], ¬ K k) (hL1 : ¬ L (x + 10)) (hA : (∀ k, x + 57 < k → kd M k = 5 → ¬ AJ (k + 1)) ∧ ∀ d, d < x → ¬ AJ d) : XLa x M' as ad T := by
  obtain ⟨h1, h2, h3, h4, h5⟩ := h
  exact ⟨f.ls hL1 as h1, h2, h3, h4, fun l a q hl hq => ⟨(h5 l a q hl hq).1, (h5 l a q hl hq).2.fr f hK hA⟩⟩
/-- the row as which it was loaded -/
def t_row (t : TQ) (r : Int32) : TQ := (t.1, t.2.1, t.2.2.1, t.2.2.2.1, t.2.2.2.2.1, r)
def q_row (q : TL) (pk : Nat) (t : TQ) (r : Int32) : TL := (q.1, q.2.1, q.2.2.1.set pk (t_row t r), q.2.2.2)
theorem XLa.q {as : List Nat} {ad : Nat → Nat → Nat} {l pk a : Nat} {q : TL} {t : TQ} (h : XLa x M as ad T) (ha : as[l]? = some a) (hq : T[l]? = some q) (ht : q.2.2.1[pk]? = some t) : x + 57 < ad l pk ∧ cQ x M t (ad l pk) := by
  obtain ⟨-, -, -, -, -, -, -, -, pq, -, -, -, -, h5⟩ := h.2.2.2.2 l a q ha hq
  obtain ⟨-, y2, y3⟩ := h5 pk t ht
  exact ⟨y2, y3⟩
theorem c_setRow {as : List Nat} {ad : Nat → Nat → Nat} {l pk a : Nat} {q : TL} {t : TQ} {v : Int32} (hX : XI x E R F W O T S jW jO M) (hla : XLa x M as ad T) (ha : as[l]? = some a) (hq : T[l]? = some q) (ht : q.2.2.1[pk]? = some t) : XI x E R F W O (T.set l (q_row q pk t v)) S jW jO (sI M 325 (ad l pk) v) ∧ XLa x (sI M 325 (ad l pk) v) as ad (T.set l (q_row q pk t v)) ∧ Fr x (fun k => k = 325) No No No 0 M (sI M 325 (ad l pk) v) := by
  have f : Fr x (fun k => k = 325) No No No 0 M (sI M 325 (ad l pk) v) := (Fr.rf hX.1.2.1 hX.1.2.2).bI (Or.inl ⟨by omega, rfl⟩)
  have gi : GI (fun k b => k = 325 ∧ b = ad l pk) M (sI M 325 (ad l pk) v) := GI.rf.sI ⟨rfl, rfl⟩
  have hpk : pk < q.2.2.1.length := (List.getElem?_eq_some_iff.mp ht).1
  obtain ⟨hxa, c1, c2, c3, c4, c5, c6, c7, pq, g1, g2, g3, g4, g5⟩ := hla.2.2.2.2 l a q ha hq
  have hn : XLa x (sI M 325 (ad l pk) v) as ad (T.set l (q_row q pk t v)) := by
    refine XLa.set hla ha hq (f.ls id) (by show (q.2.2.1.set pk (t_row t v)).length = _; rw [List.length_set]) ?_ (fun l' a' r hne hna hdis hl' hr hc => ?_)
    · refine ⟨c1, by rw [gI_sI, up2_ne (by omega)]; exact c2, by rw [gI_sI, up2_ne (by omega)]; exact c3, by rw [gI_sI, up2_ne (by omega)]; exact c4, c5, c6, c7, pq, g1, g2, by show ln M pq = (q.2.2.1.set pk (t_row t v)).length; rw [List.length_set]; exact g3, by show (q.2.2.1.set pk (t_row t v)).length ≤ 6; rw [List.length_set]; exact g4, fun p r hr => ?_⟩
      have hr : (q.2.2.1.set pk (t_row t v))[p]? = some r := hr
      rw [List.getElem?_set] at hr
      by_cases c : pk = p
      · subst c
        rw [if_pos rfl, if_pos hpk] at hr
        have hr : t_row t v = r := Option.some.inj hr
        subst hr
        obtain ⟨y1, y2, z1, z2, z3, z4, z5, z6, z7, z8⟩ := g5 pk t ht
        exact ⟨y1, y2, z1, z2, by rw [gI_sI, up2_ne (by omega)]; exact z3, fun w => by rw [gI_sI, up2_ne (by omega)]; exact z4 w, z5, z6, z7, by rw [gI_sI, up2_at]; rfl⟩
      · rw [if_neg c] at hr
        obtain ⟨y1, y2, y3⟩ := g5 p r hr
        refine ⟨y1, y2, y3.gi gi (fun j _ z => c ?_)⟩
        exact (hla.2.2.2.1 l pk l p q q hq hq hpk (List.getElem?_eq_some_iff.mp hr).1 z.2.symm).2
    · refine hc.gi gi (fun j hj z => ?_) (fun p hp j _ z => hdis p pk hp hpk z.2)
      have : ∀ j ∈ [384, 385, 389], j ≠ 325 := by decide
      exact this j hj z.1
  exact ⟨hX.frL f (fun k q => by omega) (fun _ q => q.elim) (fun _ q => q.elim) hn.xl, hn, f⟩
abbrev KV : Nat → Prop := fun k => k = 640 ∨ k = 641 ∨ k = 708 ∨ k = 325 ∨ k = 722
theorem c_rowNew {as : List Nat} {ad : Nat → Nat → Nat} {l pk a : Nat} {q : TL} {t : TQ} (hX : XI x E R F W O T S jW jO M) (hla : XLa x M as ad T) (ha : as[l]? = some a) (hq : T[l]? = some q) (ht : q.2.2.1[pk]? = some t) (h10 : t.2.1 = 10) (hv : ¬ t.2.2.2.1 < 0) (hr : t.2.2.2.2.2 = -1) (hW : W.length ≤ 440) : ∃ M', ex 153 2 [pR (some x), pR (some (ad l pk))] M = some (some (pJ (lN W.length)), M') ∧ XI x E R F (W ++ [(t.2.2.1, t.2.2.2.2.1)]) O (T.set l (q_row q pk t (nI W.length))) S (jW - 1) jO M' ∧ XLa x M' as ad (T.set l (q_row q pk t (nI W.length))) ∧ Fr x KV (fun l => l = x + 4) No (JW x M) (if jW = 0 then 26 else 0) M M' := by
  obtain ⟨xq, q1, q2, q3, q4, q5, q6, ⟨d, g1, g2, g3, g4, g5⟩, q8⟩ := hla.q ha hq ht
  obtain ⟨i6, k6⟩ := q6 h10
  obtain ⟨d1, d2⟩ := k6 hv
  rw [g1] at d1
  have d1 : d = ad l pk + 1 := Option.some.inj d1
  rw [← d1] at d2
  have n323 : ¬ lg_cmp (gJ M 323 (ad l pk)) (-1 : Int64) = 0 := fun z => hv (i6.mp (cmp_eq0.mp z))
  have o322 : gI M 322 (ad l pk) = t.2.2.1 := q4 (by rw [h10]; decide)
  have hkT := lt_of_kd hX.1.2.1 q1 (by omega)
  have hdT := lt_of_kd hX.1.2.1 d2 (by omega)
  obtain ⟨M1, jW', e120, hX1, f1, hj⟩ := c_addRow (p := t.2.2.1) (k := t.2.2.2.2.1.length) hX g4 (by omega)
  have hla1 : XLa x M1 as ad T := hla.fr f1 (by decide) (by omega) ⟨fun k hk h5 z => by have := z.2; rw [Nat.add_sub_cancel] at this; omega, fun d hd z => by have := z.1; omega⟩
  have hdj : ¬ JW x M d := fun z => by
    have := z.2
    rw [d1, Nat.add_sub_cancel] at this
    omega
  obtain ⟨hX2, hla2, f2⟩ := c_setRow (v := nI W.length) hX1 hla1 ha hq ht
  obtain ⟨-, q1', -, -, -, -, -, ⟨d', g1', -, g3', -, g5'⟩, -⟩ := hla1.q ha hq ht
  have hd' : d' = d := by
    have : gR M1 324 (ad l pk) = gR M 324 (ad l pk) := f1.fR (by omega) hkT (by decide)
    rw [this, g1] at g1'
    exact (Option.some.inj g1').symm
  subst hd'
  have kd1 : kd M1 d' = 21 := by rw [f1.fk hdT]; exact d2
  have hat : ((W ++ [(t.2.2.1, List.replicate t.2.2.2.2.1.length 0)]).map some ++ List.replicate jW' none)[W.length]? = some (some (t.2.2.1, List.replicate t.2.2.2.2.1.length 0)) := by
    rw [List.getElem?_append_left (by rw [List.length_map, List.length_append]; simp), List.getElem?_map, List.getElem?_append_right (Nat.le_refl _), Nat.sub_self]
    rfl
  have e325 : gI (sI M1 325 (ad l pk) (nI W.length)) 325 (ad l pk) = nI W.length := by rw [gI_sI, up2_at]
  have run : ∀ {rr : Option Rt}, (rd (some (ad l pk)) 5 (sI M1 325 (ad l pk) (nI W.length)) fun a12 => rd (some x) 11 (sI M1 325 (ad l pk) (nI W.length)) fun a13 => rd (some (ad l pk)) 5 (sI M1 325 (ad l pk) (nI W.length)) fun a14 => rd (gR (sI M1 325 (ad l pk) (nI W.length)) 707 a13) 0 (sI M1 325 (ad l pk) (nI W.length)) fun a16 => clR (ex 16 2 [pR (some a16), pI (gI (sI M1 325 (ad l pk) (nI W.length)) 325 a14)] (sI M1 325 (ad l pk) (nI W.length))) fun r17 M15 => ck r17 10 M15 (rd r17 10 M15 fun a18 => rd (some (ad l pk)) 5 M15 fun a19 => al (gR M15 324 a19) M15 fun a20 => cpJ (gR (sI M1 325 (ad l pk) (nI W.length)) 324 a12) 0 (gR M15 642 a18) 0 (nI (ln M15 a20)) M15 fun M21 => rd (some (ad l pk)) 5 M21 fun a22 => some (some (pJ ((gI M21 325 a22).toInt64)), M21))) = rr → ex 153 2 [pR (some x), pR (some (ad l pk))] M = rr := fun {rr} hr' => by
    rw [tX11_rowNow]
    refine rd_i rfl q1 (it_t n323 (rd_i rfl q1 (it_f (not_not_intro (q8.trans hr)) (rd_i rfl q1 (rd_i rfl q1 (al_i g1 (by omega) (rd_i rfl hX.1.1.k ?_)))))))
    rw [o322, g3]
    exact clI_i e120 (rd_i rfl q1' (bd_i hr'))
  have k5 : kd (sI M1 325 (ad l pk) (nI W.length)) (ad l pk) = 5 := by rw [kd_sI]; exact q1'
  have r324 : gR (sI M1 325 (ad l pk) (nI W.length)) 324 (ad l pk) = some d' := by rw [gR_sI]; exact g1'
  have kd2 : kd (sI M1 325 (ad l pk) (nI W.length)) d' = 21 := by rw [kd_sI]; exact kd1
  have ld2 : ln (sI M1 325 (ad l pk) (nI W.length)) d' = t.2.2.2.2.1.length := by rw [ln_sI]; exact g3'
  have ad2 : ∀ (i : Nat) (v : Int64), t.2.2.2.2.1[i]? = some v → aJ (sI M1 325 (ad l pk) (nI W.length)) d' i = v := fun i v hi => by rw [aJ_sI]; exact g5' i v hi
  generalize sI M1 325 (ad l pk) (nI W.length) = M2 at hX2 hla2 f2 e325 run k5 r324 kd2 ld2 ad2
  have hB2 := hX2.1.1
  obtain ⟨ra, g16, xra, cw, gset, -⟩ := hX2.2.2.2.2.1.1.at hat
  obtain ⟨w1, w2, w3, w4, w5⟩ := id cw
  obtain ⟨v1, v2, v3, v4⟩ := w5 _ rfl
  have f3 : Fr x No No No (fun d => d = ra + 1) 0 M2 (uJ M2 (ra + 1) (va_cpy (aJ M2 d') (aJ M2 (ra + 1)) 0 0 t.2.2.2.2.1.length)) := (Fr.rf hX2.1.2.1 hX2.1.2.2).bAJ (Or.inl rfl)
  have cn : cW (uJ M2 (ra + 1) (va_cpy (aJ M2 d') (aJ M2 (ra + 1)) 0 0 t.2.2.2.2.1.length)) (some (t.2.2.1, t.2.2.2.2.1)) ra := by
    refine ⟨w1, w2, w3, w4, fun w hw => ?_⟩
    cases hw
    refine ⟨v1, by rw [gI_uJ, v2, List.length_replicate], g4, fun i v hi => ?_⟩
    have hi : t.2.2.2.2.1[i]? = some v := hi
    have hil : i < t.2.2.2.2.1.length := (List.getElem?_eq_some_iff.mp hi).1
    rw [aJ_uJ, up1_at]
    unfold va_cpy
    rw [if_pos (by omega), show 0 + (i - 0) = i by omega]
    exact ad2 i v hi
  have hW3 := gset _ (cW _) (some (t.2.2.1, t.2.2.2.2.1)) (f3.ls id) cn (fun q b hne hb hr => hr.fr f3 (fun _ _ => id) (fun z => by omega))
  have eW : ((W ++ [(t.2.2.1, List.replicate t.2.2.2.2.1.length 0)]).map some ++ List.replicate jW' none).set W.length (some (t.2.2.1, t.2.2.2.2.1)) = (W ++ [(t.2.2.1, t.2.2.2.2.1)]).map some ++ List.replicate jW' none := by
    rw [map_set_some _ _ (W ++ [(t.2.2.1, List.replicate t.2.2.2.2.1.length 0)]) W.length _ (by rw [List.length_append]; simp) rfl, List.set_append_right _ _ (Nat.le_refl _), Nat.sub_self]
    rfl
  rw [eW] at hW3
  have h708 : gI M2 708 x = nI (W ++ [(t.2.2.1, t.2.2.2.2.1)]).length := by
    rw [hX2.2.2.2.2.1.2, List.length_append, List.length_append]
    rfl
  have hX3 : XI x E R F (W ++ [(t.2.2.1, t.2.2.2.2.1)]) O (T.set l (q_row q pk t (nI W.length))) S jW' jO (uJ M2 (ra + 1) (va_cpy (aJ M2 d') (aJ M2 (ra + 1)) 0 0 t.2.2.2.2.1.length)) := hX2.frW f3 (fun _ q => q.elim) (fun _ q => q.elim) (fun d z => by subst z; exact ⟨by omega, by rw [Nat.add_sub_cancel]; exact w1⟩) ⟨hW3, by rw [gI_uJ]; exact h708⟩
  have hla3 : XLa x (uJ M2 (ra + 1) (va_cpy (aJ M2 d') (aJ M2 (ra + 1)) 0 0 t.2.2.2.2.1.length)) as ad (T.set l (q_row q pk t (nI W.length))) := hla2.fr f3 (fun _ _ => id) id ⟨fun k hk h5 z => by
    have : k = ra := by omega
    rw [this] at h5
    omega, fun d hd z => by omega⟩
  have fT := f1.fT
  have f2T := f2.fT
  refine ⟨_, run (rd_i rfl k5 (rd_i rfl hB2.k (rd_i rfl k5 (rd_i hB2.r4.1 hB2.r4.2 ?_)))), by rw [← hj]; exact hX3, hla3, ?_⟩
  · rw [e325]
    refine clR_i g16 (ck_s rfl w1 (rd_i rfl w1 (rd_i rfl k5 (al_i r324 (by omega) ?_))))
    rw [r324, w2, ld2]
    refine cpJ_k kd2 w3 (by omega) (by omega) (by omega) (rd_i rfl k5 ?_)
    rw [gI_uJ, e325, nI_l (by omega)]
  · have a1 : Fr x KV (fun l => l = x + 4) No (JW x M) ((if jW = 0 then 26 else 0) + 0) M M2 := (f1.mo (K' := KV) (Nat.le_refl _) (fun k z => by omega) (fun _ => id) (fun _ => id) (fun _ => id)).tr (f2.mo (Nat.le_refl _) (fun k z => by omega) (fun _ z => z.elim) (fun _ => id) (fun _ z => z.elim))
    have a2 := a1.trN f3 (fun _ z => z.elim) (fun _ _ z => z.elim) (fun _ _ => id) (fun d hd z => by
      subst z
      refine ⟨by omega, ?_⟩
      rw [Nat.add_sub_cancel, ← a1.fk (show ra < mT M by omega)]
      exact w1)
    exact a2
end OPS
