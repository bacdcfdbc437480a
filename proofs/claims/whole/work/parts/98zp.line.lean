/-! KEEPING: a new line, the class -/
section OPS
variable {x : Nat} {E E' : List TE} {R R' : List TR} {F F' : List TF} {W W' : List TW} {O O' : List TO} {T T' : List TL} {S S' : TS} {jW jO jW' jO' n : Nat} {M M' M1 : Mem}
theorem c_al40 {a ra pq o : Nat} {q : TO} {rc : TR} {M0 : Mem} (hX0 : XI x E R F W O T S jW jO M0) (hc0 : cO M0 (some q) a) (hr0 : cR x M0 rc ra) (hvl : q.2.1.length = rc.1.length) (hval : ∀ (p : Nat) (t : TP) (v : Int64), rc.1[p]? = some t → q.2.1[p]? = some v → valOK E F W O o t.2.1 t.2.2.1 v) (hs : ∀ (p : Nat) (t : TP), rc.1[p]? = some t → srtOK E.length F.length t.2.1 t.2.2.1) (hE4 : E.length ≤ 4) (hE8 : ∀ (e : Nat) (q : TE), E[e]? = some q → q.1.length ≤ 8) (hpq : mT M0 ≤ pq) : ∀ (k p : Nat) (M : Mem) (ad : Nat → Nat), k + p = rc.1.length → Fr x No No No No (1 + 2 * p) M0 M → kd M pq = 24 → ln M pq = rc.1.length → (∀ j, j < p → pq < ad j ∧ ad j < mT M) → (∀ j j', j < p → j' < p → ad j = ad j' → j = j') → (∀ (j : Nat) (t : TP) (v : Int64), j < p → rc.1[j]? = some t → q.2.1[j]? = some v → aR M pq j = some (ad j) ∧ cQ x M (kq0 E W O t v) (ad j)) → ∃ (M' : Mem) (ad' : Nat → Nat), rn PP 141 40 [some (pR (some x)), some (pR (some a)), some (pR (some ra)), some (pR (some pq)), some (pI (nI p))] [] M = rn PP 141 40 [some (pR (some x)), some (pR (some a)), some (pR (some ra)), some (pR (some pq)), some (pI (nI rc.1.length))] [] M' ∧ Fr x No No No No (1 + 2 * rc.1.length) M0 M' ∧ kd M' pq = 24 ∧ ln M' pq = rc.1.length ∧ (∀ j, j < rc.1.length → pq < ad' j ∧ ad' j < mT M') ∧ (∀ j j', j < rc.1.length → j' < rc.1.length → ad' j = ad' j' → j = j') ∧ (∀ (j : Nat) (t : TP) (v : Int64), j < rc.1.length → rc.1[j]? = some t → q.2.1[j]? = some v → aR M' pq j = some (ad' j) ∧ cQ x M' (kq0 E W O t v) (ad' j)) := by
  intro k
  induction k with
  | zero =>
    intro p M ad hp f h24 hl h1 h2 h3
    have : p = rc.1.length := by omega
    subst this
    exact ⟨M, ad, rfl, f, h24, hl, h1, h2, h3⟩
  | succ k ih =>
    intro p M ad hp f h24 hl h1 h2 h3
    have hX := hX0.fr0 f
    have hB := hX.1.1
    have hr := hr0.fr f (fun _ _ => id) ⟨id, id⟩
    have hc := hc0.fr f (fun _ _ => id) id
    have h1002 := hr.2.2.2.2.1.len
    obtain ⟨t, ht, -⟩ := drop_get (l := rc.1) (i := p) (by omega)
    obtain ⟨v, hv, -⟩ := drop_get (l := q.2.1) (i := p) (by omega)
    obtain ⟨kt, k1, k2, k3, -⟩ := isO.at hr.2.2.2.2.1 ht
    obtain ⟨c1, c2, c3, c4, c5⟩ := id hc
    obtain ⟨d1, d2, d3, d4, d5⟩ := c5 q rfl
    obtain ⟨M1, e142, q1, f1, hlt⟩ := c_keptPart hX k3 (hs p t ht) (hval p t v ht hv) hE4 hE8
    have hpqT := lt_of_kd hX.1.2.1 h24 (by omega)
    have k24 : kd M1 pq = 24 := by rw [f1.fk hpqT]; exact h24
    have l24 : ln M1 pq = rc.1.length := by rw [f1.fl hpqT]; exact hl
    have f2 : Fr x No No No No (1 + 2 * p + 2) M0 (wR M1 pq p (some (mT M))) := (f.tr f1).bAR hpq k24
    have step : rn PP 141 40 [some (pR (some x)), some (pR (some a)), some (pR (some ra)), some (pR (some pq)), some (pI (nI p))] [] M = rn PP 141 40 [some (pR (some x)), some (pR (some a)), some (pR (some ra)), some (pR (some pq)), some (pI (nI (p + 1)))] [] (wR M1 pq p (some (mT M))) := by
      rw [tX11_addLine_40]
      refine al_i rfl (by omega) (it_f (by rw [hl]; exact nI_ge (by omega) (by omega)) (rd_i rfl hr.1 (rd_i hr.2.1 hr.2.2.2.2.1.k (clR_i k1 (ck_s rfl k3.1 (rd_i rfl c1 (ix_i (n := p) c2 (Or.inl c3) rfl (by rw [c4]; omega) (by omega) (rd_i rfl hB.k (clR_i (v := some (mT M)) (M1 := M1) (by rw [d5 p v hv]; exact e142) (ix_i (n := p) rfl (Or.inr k24) rfl (by omega) (by omega) (st_i (Or.inr ⟨k24, q1.1⟩) (bd_i ?_)))))))))))) 
      rw [nI_1]
    have a1 : ∀ j, j < p + 1 → pq < (if j = p then mT M else ad j) ∧ (if j = p then mT M else ad j) < mT (wR M1 pq p (some (mT M))) := fun j hj => by
      rw [mT_wR]
      by_cases c : j = p
      · rw [if_pos c]; omega
      · rw [if_neg c]
        have := h1 j (by omega)
        omega
    have a2 : ∀ j j', j < p + 1 → j' < p + 1 → (if j = p then mT M else ad j) = (if j' = p then mT M else ad j') → j = j' := fun j j' hj hj' => by
      by_cases c : j = p
      · by_cases c' : j' = p
        · intro _; omega
        · rw [if_pos c, if_neg c']
          intro z
          have := h1 j' (by omega)
          omega
      · by_cases c' : j' = p
        · rw [if_neg c, if_pos c']
          intro z
          have := h1 j (by omega)
          omega
        · rw [if_neg c, if_neg c']
          exact h2 j j' (by omega) (by omega)
    have a3 : ∀ (j : Nat) (t : TP) (v : Int64), j < p + 1 → rc.1[j]? = some t → q.2.1[j]? = some v → aR (wR M1 pq p (some (mT M))) pq j = some (if j = p then mT M else ad j) ∧ cQ x (wR M1 pq p (some (mT M))) (kq0 E W O t v) (if j = p then mT M else ad j) := fun j t' v' hj ht' hv' => by
      rw [aR_wR, up1_at]
      by_cases c : j = p
      · subst c
        rw [ht] at ht'
        rw [hv] at hv'
        cases ht'
        cases hv'
        rw [if_pos rfl, up1_at]
        exact ⟨rfl, q1⟩
      · rw [if_neg c, up1_no c]
        obtain ⟨u1, u2⟩ := h3 j t' v' (by omega) ht' hv'
        have u3 : cQ x M1 (kq0 E W O t' v') (ad j) := u2.fr f1 (fun _ _ => id) ⟨id, fun _ _ => id⟩
        exact ⟨by rw [f1.fq hpqT h24]; exact u1, u3⟩
    obtain ⟨M', ad', r1, r2⟩ := ih (p + 1) (wR M1 pq p (some (mT M))) (fun j => if j = p then mT M else ad j) (by omega) (f2.mo (by omega) (fun _ => id) (fun _ => id) (fun _ => id) (fun _ => id)) (by rw [kd_wR]; exact k24) (by rw [ln_wR]; exact l24) a1 a2 a3
    exact ⟨M', ad', step.trans r1, r2⟩
theorem line_init {Mb : Mem} {a pq : Nat} {p0 p1 : Int32} {K L AI AJ : Nat → Prop} (f : Fr x K L AI AJ n M Mb) (haM : mT M ≤ a) (ha : mT Mb = a + 1) (hk : kd Mb a = 6) : ∃ Mc, ex 59 4 [pR (some a), pI p0, pI p1, pR (some pq)] Mb = some (none, Mc) ∧ Fr x K L AI AJ (n + 1) M Mc ∧ kd Mc a = 6 ∧ gI Mc 384 a = p0 ∧ gI Mc 385 a = p1 ∧ gI Mc 389 a = -1 ∧ gR Mc 387 a = some (a + 1) ∧ kd Mc (a + 1) = 21 ∧ ln Mc (a + 1) = 6 ∧ gR Mc 386 a = some pq := by
  have h6 : (6 : Int32).toNatClampNeg = 6 := by decide
  have k0 : kd (nA Mb 21 6) a = 6 := by rw [kd_nA, up1_no (by omega)]; exact hk
  have k1 : kd (nA Mb 21 6) (a + 1) = 21 := by rw [kd_nA, ← ha, up1_at]
  have l1 : ln (nA Mb 21 6) (a + 1) = 6 := by rw [ln_nA, ← ha, up1_at]
  have f0 : Fr x K L AI AJ (n + 1) M (nA Mb 21 6) := f.bA (by omega) (by omega) (by omega)
  have run : ∀ {rr : Option Rt}, (rd (some a) 6 (nA Mb 21 6) fun a3 => bd (sF (nA Mb 21 6) 387 a3 (some (mT Mb))) fun M4 => rd (some a) 6 M4 fun a5 => bd (sI M4 389 a5 (-1)) fun M6 => rd (some a) 6 M6 fun a7 => bd (sI M6 384 a7 p0) fun M8 => rd (some a) 6 M8 fun a9 => bd (sI M8 385 a9 p1) fun M10 => rd (some a) 6 M10 fun a11 => bd (sF M10 386 a11 (some pq)) fun M12 => some (none, M12)) = rr → ex 59 4 [pR (some a), pI p0, pI p1, pR (some pq)] Mb = rr := fun {rr} hr => by
    rw [tX6_init, h6]
    exact nn_i rfl (gd_i (by decide) (bd_i hr))
  generalize nA Mb 21 6 = Mn at k0 k1 l1 f0 run
  refine ⟨sF (sI (sI (sI (sF Mn 387 a (some (mT Mb))) 389 a (-1)) 384 a p0) 385 a p1) 386 a (some pq), run ?_, ((((f0.bF (Or.inr ⟨haM, Or.inl (by omega)⟩)).bI (Or.inr haM)).bI (Or.inr haM)).bI (Or.inr haM)).bF (Or.inr ⟨haM, Or.inl (by omega)⟩), ?_, ?_, ?_, ?_, ?_, ?_, ?_, ?_⟩
  · exact rd_i rfl k0 (bd_i (rd_i rfl (by rw [kd_sF]; exact k0) (bd_i (rd_i rfl (by rw [kd_sI, kd_sF]; exact k0) (bd_i (rd_i rfl (by rw [kd_sI, kd_sI, kd_sF]; exact k0) (bd_i (rd_i rfl (by rw [kd_sI, kd_sI, kd_sI, kd_sF]; exact k0) (bd_i rfl)))))))))
  · rw [kd_sF, kd_sI, kd_sI, kd_sI, kd_sF]; exact k0
  · rw [gI_sF, gI_sI, up2_ne (by omega), gI_sI, up2_at]
  · rw [gI_sF, gI_sI, up2_at]
  · rw [gI_sF, gI_sI, up2_ne (by omega), gI_sI, up2_ne (by omega), gI_sI, up2_at]
  · rw [gR_sF, up2_ne (by omega), gR_sI, gR_sI, gR_sI, gR_sF, up2_at, ha]
  · rw [kd_sF, kd_sI, kd_sI, kd_sI, kd_sF]; exact k1
  · rw [ln_sF, ln_sI, ln_sI, ln_sI, ln_sF]; exact l1
  · rw [gR_sF, up2_at]
/-- the line that keeps an object -/
def mkL (E : List TE) (R : List TR) (W : List TW) (O : List TO) (S : TS) (q : TO) : TL := (q.1, nI S.2.2.2.2.2.1, ((R.getD q.1 ([], [], 0)).1.zip q.2.1).map (fun c => kq0 E W O c.1 c.2), -1)
theorem zip_at {α β : Type} {l : List α} {r : List β} {p : Nat} {c : α × β} (h : (l.zip r)[p]? = some c) : l[p]? = some c.1 ∧ r[p]? = some c.2 := by
  rw [List.getElem?_zip_eq_some] at h
  exact h
theorem mkL_len {q : TO} {rc : TR} (hrc : R[q.1]? = some rc) (hvl : q.2.1.length = rc.1.length) : (mkL E R W O S q).2.2.1.length = rc.1.length := by
  show (((R.getD q.1 ([], [], 0)).1.zip q.2.1).map (fun c => kq0 E W O c.1 c.2)).length = _
  rw [List.length_map, getD_at hrc, List.length_zip]
  omega
theorem mkL_at {q : TO} {rc : TR} {p : Nat} {r : TQ} (hrc : R[q.1]? = some rc) (h : (mkL E R W O S q).2.2.1[p]? = some r) : ∃ t v, rc.1[p]? = some t ∧ q.2.1[p]? = some v ∧ r = kq0 E W O t v := by
  have h : (((R.getD q.1 ([], [], 0)).1.zip q.2.1).map (fun c => kq0 E W O c.1 c.2))[p]? = some r := h
  rw [getD_at hrc] at h
  rw [List.getElem?_map] at h
  cases hz : (rc.1.zip q.2.1)[p]? with
  | none => rw [hz] at h; exact nomatch h
  | some c =>
    rw [hz] at h
    obtain ⟨y1, y2⟩ := zip_at hz
    exact ⟨c.1, c.2, y1, y2, (Option.some.inj h).symm⟩
theorem c_addLine {a o : Nat} {q : TO} {rc : TR} (hX : XI x E R F W O T S jW jO M) (aw : AW E R F W O T S jW jO) (hq : O[o]? = some q) (hg : ex 16 2 [pR (some (x + 5)), pI (nI o)] M = some (some (pR (some a)), M)) (hrc : R[q.1]? = some rc) (h6 : rc.1.length ≤ 6) (hE4 : E.length ≤ 4) (hE8 : ∀ (e : Nat) (q : TE), E[e]? = some q → q.1.length ≤ 8) (hT : T.length < 64) : ∃ M', ex 141 5 [pR (some x), pR (some a)] M = some (none, M') ∧ XI x E R F W (O.set o (q.1, q.2.1, nI T.length, q.2.2.2)) (T ++ [mkL E R W O S q]) S jW jO M' ∧ Fr x (fun k => k = 451) (fun l => l = x + 10) No No 40 M M' := by
  obtain ⟨⟨hB, hv, hL⟩, -, hR, -, -, hO, hXL, hS⟩ := id hX
  have hlt := hB.lt
  obtain ⟨a', g1, g2, g3, -⟩ := XO.at hO hq
  rw [g1] at hg
  have := rt_inj hg
  subst this
  obtain ⟨ra, c108, hxr, hr, -, -⟩ := c_recAt hB hR hrc
  obtain ⟨c1, c2, c3, c4, c5⟩ := id g3
  obtain ⟨d1, d2, d3, d4, d5⟩ := c5 q rfl
  obtain ⟨as, ad, l1, l2, l3, l4, l5⟩ := id hXL
  have hla : XLa x M as ad T := ⟨l1, l2, l3, l4, l5⟩
  obtain ⟨rc', y1, hvl, -, hval⟩ := aw.2.2.2.1 o q hq
  rw [hrc] at y1
  cases y1
  have hs := fun p t ht => ((aw.1 q.1 rc hrc).1 p t ht).1
  have fA : Fr x No No No No (1 + 2 * 0) M (nA M 24 rc.1.length) := (Fr.rf hv hL).bA (by omega) (by omega) (by omega)
  have kA : kd (nA M 24 rc.1.length) (mT M) = 24 := by rw [kd_nA, up1_at]
  have lA : ln (nA M 24 rc.1.length) (mT M) = rc.1.length := by rw [ln_nA, up1_at]
  have run : ∀ {rr : Option Rt}, rn PP 141 40 [some (pR (some x)), some (pR (some a')), some (pR (some ra)), some (pR (some (mT M))), some (pI 0)] [] (nA M 24 rc.1.length) = rr → ex 141 5 [pR (some x), pR (some a')] M = rr := fun {rr} hr' => by
    rw [tX11_addLine]
    refine rd_i rfl c1 (rd_i rfl hB.k ?_)
    rw [d1]
    refine clR_i c108 (it_f (fun z => nomatch z) (rd_i rfl hB.k (rd_i hB.r10.1 hB.r10.2 (clI_i hla.size (it_t (nI_lt (b := 64) hT (by decide)) (rd_i rfl hr.1 (rd_i hr.2.1 hr.2.2.2.2.1.k (clI_i hr.2.2.2.2.1.size (gd_i ⟨nI_pos (by omega), by rw [nI_clamp (by omega)]; omega⟩ (bd_i ?_)))))))))) 
    rw [nI_clamp (by omega)]
    exact hr'
  generalize nA M 24 rc.1.length = Mn at fA kA lA run
  obtain ⟨Mp, an, e40, fP, kP, lP, p1, p2, p3⟩ := c_al40 (pq := mT M) hX g3 hr hvl hval hs hE4 hE8 (Nat.le_refl _) rc.1.length 0 Mn (fun _ => 0) (by omega) fA kA lA (fun j hj => by omega) (fun j j' hj => by omega) (fun j t v hj => by omega)
  have hXP := hX.fr0 fP
  have hBP := hXP.1.1
  have gP : ex 16 2 [pR (some (x + 5)), pI (nI o)] Mp = some (some (pR (some a')), Mp) := (isO.stay hO.1 hXP.2.2.2.2.2.1.1 (fP.ls id) (i := o) (q := some q) (q' := some q) (by rw [List.getElem?_append_left (by rw [List.length_map]; exact (List.getElem?_eq_some_iff.mp hq).1), List.getElem?_map, hq]; rfl) (by rw [List.getElem?_append_left (by rw [List.length_map]; exact (List.getElem?_eq_some_iff.mp hq).1), List.getElem?_map, hq]; rfl) g1).1
  obtain ⟨hXa, fa⟩ := c_oset (key := 451) (v := nI T.length) (q' := (q.1, q.2.1, nI T.length, q.2.2.2)) hXP hq gP (Or.inr (Or.inl ⟨rfl, rfl⟩))
  have coP := g3.fr fP (fun _ _ => id) id
  have laP : XLa x Mp as ad T := ⟨fP.ls id as l1, l2, l3, l4, fun l a q hl hq => ⟨(l5 l a q hl hq).1, (l5 l a q hl hq).2.fr fP (fun _ _ => id) ⟨fun _ _ _ => id, fun _ _ => id⟩⟩⟩
  have run2 : ∀ {rr : Option Rt}, (rd (some x) 11 (sI Mp 451 a' (nI T.length)) fun a8 => bd (nO (sI Mp 451 a' (nI T.length)) 6 7) fun M9 => rd (some a') 7 M9 fun a10 => rd (some x) 11 M9 fun a11 => rd (some (mT (sI Mp 451 a' (nI T.length)))) 6 M9 fun a13 => clV (ex 59 4 [pR (some a13), pI (gI M9 448 a10), pI (gI M9 721 a11), pR (some (mT M))] M9) fun M12 => rd (gR (sI Mp 451 a' (nI T.length)) 719 a8) 0 M12 fun a15 => clI (ex 19 2 [pR (some a15), pR (some (mT (sI Mp 451 a' (nI T.length))))] M12) fun r16 M14 => some (none, M14)) = rr → ex 141 5 [pR (some x), pR (some a')] M = rr := fun {rr} hr' => by
    refine run (e40.trans ?_)
    rw [tX11_addLine_40]
    exact al_i rfl (by omega) (it_t (by rw [lP]; exact nI_le (by omega) (by omega)) (rd_i rfl hBP.k (rd_i hBP.r10.1 hBP.r10.2 (clI_i laP.size (rd_i rfl coP.1 (bd_i hr'))))))
  have tMa : mT (sI Mp 451 a' (nI T.length)) = mT Mp := by rw [mT_sI]
  have q3 : ∀ (j : Nat) (t : TP) (v : Int64), j < rc.1.length → rc.1[j]? = some t → q.2.1[j]? = some v → cQ x (sI Mp 451 a' (nI T.length)) (kq0 E W O t v) (an j) := fun j t v hj ht hv' => (p3 j t v hj ht hv').2.fr fa (by decide) ⟨id, fun _ _ => id⟩
  have coA : cO (sI Mp 451 a' (nI T.length)) (some (q.1, q.2.1, nI T.length, q.2.2.2)) a' := by
    obtain ⟨u1, u2, u3, u4, u5⟩ := coP
    obtain ⟨v1, v2, v3, v4, v5⟩ := u5 q rfl
    refine ⟨u1, u2, u3, u4, fun w hw => ?_⟩
    cases hw
    refine ⟨by rw [gI_sI, up2_ne (by omega)]; exact v1, by rw [gI_sI, up2_at], by rw [gI_sI, up2_ne (by omega)]; exact v3, v4, v5⟩
  generalize sI Mp 451 a' (nI T.length) = Ma at hXa fa run2 tMa q3 coA
  have hBa := hXa.1.1
  have f0 : Fr x No No No No 1 Ma (nO Ma 6 7) := (Fr.rf hXa.1.2.1 hXa.1.2.2).bO (by omega) (by omega)
  have k6 : kd (nO Ma 6 7) (mT Ma) = 6 := by rw [kd_nO, up1_at]
  have t6 : mT (nO Ma 6 7) = mT Ma + 1 := by rw [mT_nO]
  generalize nO Ma 6 7 = Mb at f0 k6 t6 run2
  have hXb := hXa.fr0 f0
  have hBb := hXb.1.1
  obtain ⟨b1, b2, b3, b4, b5⟩ := coA.fr f0 (fun _ _ => id) id
  obtain ⟨Mc, e59, fc, w1, w2, w3, w4, w5, w6, w7, w8⟩ := line_init (p0 := nI q.1) (p1 := nI S.2.2.2.2.2.1) (pq := mT M) f0 (Nat.le_refl _) t6 k6
  have hXc := hXa.fr0 fc
  have hBc := hXc.1.1
  have fall : Fr x (fun k => k = 451) (fun l => l = x + 10) No No (1 + 2 * rc.1.length + 0 + (1 + 1)) M Mc := ((fP.mo (Nat.le_refl _) (fun _ q => q.elim) (fun _ q => q.elim) (fun _ => id) (fun _ => id)).tr (fa.mo (Nat.le_refl _) (fun _ => id) (fun _ q => q.elim) (fun _ => id) (fun _ => id))).tr (fc.mo (Nat.le_refl _) (fun _ q => q.elim) (fun _ q => q.elim) (fun _ => id) (fun _ => id))
  have lsC : isL Mc (x + 10) as := fc.ls id as (fa.ls id as (fP.ls id as l1))
  have hTP := fP.fT
  have hTa := fa.fT
  obtain ⟨Md, e19, lsD, lm⟩ := L_add (a := mT Ma) hXc.1.2.1 (fun d hd => (hBc.de d hd).1) hXc.1.2.2 lsC (by omega) (by omega) (fun z => by omega)
  have vD : PIv x Md := (ex_kp x e19).2 hXc.1.2.1
  have fD : Fr x No (fun l => l = x + 10) No No (0 + 24) Mc Md := (Fr.rf (K := No) (L := fun l => l = x + 10) (AI := No) (AJ := No) hXc.1.2.1 hXc.1.2.2).bL lm vD (Or.inl rfl)
  have run3 : ex 141 5 [pR (some x), pR (some a')] M = some (none, Md) := by
    refine run2 (rd_i rfl hBa.k (bd_i (rd_i rfl b1 (rd_i rfl hBb.k (rd_i rfl k6 ?_)))))
    rw [(b5 _ rfl).1, hXb.2.2.2.2.2.2.2.2.2.2.2.2.2.1]
    refine clV_i e59 (rd_i hBa.r10.1 hBc.r10.2 (clI_i e19 rfl))
  have hpqT : mT M < mT Mp := lt_of_kd fP.v kP (by omega)
  have fqc : ∀ (j : Nat) (t : TP) (v : Int64), j < rc.1.length → rc.1[j]? = some t → q.2.1[j]? = some v → aR Mc (mT M) j = some (an j) := fun j t v hj ht hv' => by
    rw [fc.fq (by omega) (by rw [fa.fk hpqT]; exact kP), fa.fq hpqT kP]
    exact (p3 j t v hj ht hv').1
  have new : cL x Md an (mkL E R W O S q) (mT Ma) := by
    have tc : mT Ma < mT Mc := lt_of_kd fc.v w1 (by omega)
    have tc1 : mT Ma + 1 < mT Mc := lt_of_kd fc.v w6 (by omega)
    have tpq : mT M < mT Mc := by have := fc.fT; omega
    have kC : kd Mc (mT M) = 24 := by rw [fc.fk (by omega), fa.fk hpqT]; exact kP
    refine ⟨by rw [fD.fk tc]; exact w1, by rw [fD.fI (by omega) tc id]; exact w2, by rw [fD.fI (by omega) tc id]; exact w3, by rw [fD.fI (by omega) tc id]; exact w4, by rw [fD.fR (by omega) tc id]; exact w5, by rw [fD.fk tc1]; exact w6, by rw [fD.fl tc1]; exact w7, mT M, by rw [fD.fR (by omega) tc id]; exact w8, by rw [fD.fk tpq]; exact kC, ?_, ?_, fun p r hr' => ?_⟩
    · rw [fD.fl tpq, fc.fl (by omega), fa.fl hpqT, lP, mkL_len hrc hvl]
    · rw [mkL_len hrc hvl]; exact h6
    · obtain ⟨t, v, ht, hv', rfl⟩ := mkL_at hrc hr'
      have hp : p < rc.1.length := (List.getElem?_eq_some_iff.mp ht).1
      exact ⟨by rw [fD.fq tpq kC]; exact fqc p t v hp ht hv', by have := p1 p hp; omega, ((q3 p t v hp ht hv').fr fc (fun _ _ => id) ⟨id, fun _ _ => id⟩).fr fD (fun _ _ => id) ⟨id, fun _ _ => id⟩⟩
  have old : ∀ (l a : Nat) (q : TL), as[l]? = some a → T[l]? = some q → x + 57 < a ∧ cL x Md (ad l) q a := fun l a q hl hq => ⟨(l5 l a q hl hq).1, ((((l5 l a q hl hq).2.fr fP (fun _ _ => id) ⟨fun _ _ _ => id, fun _ _ => id⟩).fr fa (by decide) ⟨fun _ _ _ => id, fun _ _ => id⟩).fr fc (fun _ _ => id) ⟨fun _ _ _ => id, fun _ _ => id⟩).fr fD (fun _ _ => id) ⟨fun _ _ _ => id, fun _ _ => id⟩⟩
  have adlt : ∀ (l p : Nat) (q : TL), T[l]? = some q → p < q.2.2.1.length → ad l p < mT M := fun l p q hq hp => by
    have hll : l < T.length := (List.getElem?_eq_some_iff.mp hq).1
    have hla' : as[l]? = some as[l] := List.getElem?_eq_getElem (by omega)
    obtain ⟨-, -, -, -, -, -, -, -, pq, -, -, -, -, hh⟩ := l5 l _ q hla' hq
    obtain ⟨-, -, hcq⟩ := hh p q.2.2.1[p] (List.getElem?_eq_getElem hp)
    exact lt_of_kd hv hcq.1 (by omega)
  have newlen : (mkL E R W O S q).2.2.1.length = rc.1.length := mkL_len hrc hvl
  have hXL' : XL x Md (T ++ [mkL E R W O S q]) := by
    refine ⟨as ++ [mT Ma], fun l p => if l = T.length then an p else ad l p, lsD, fun i j b hi hj => ?_, by rw [List.length_append, List.length_append, l3]; rfl, fun l p l' p' u u' hu hu' hp hp' => ?_, fun l b u hl hu => ?_⟩
    · have nin : ∀ i, as[i]? ≠ some (mT Ma) := fun i h => by
        have hil : i < as.length := (List.getElem?_eq_some_iff.mp h).1
        have := lt_of_kd hv (l5 i _ T[i] h (List.getElem?_eq_getElem (by omega))).2.1 (by omega)
        omega
      by_cases c : i < as.length
      · rw [List.getElem?_append_left c] at hi
        by_cases c' : j < as.length
        · rw [List.getElem?_append_left c'] at hj
          exact l2 i j b hi hj
        · rw [List.getElem?_append_right (by omega)] at hj
          have : j - as.length < 1 := (List.getElem?_eq_some_iff.mp hj).1
          rw [show j - as.length = 0 by omega] at hj
          cases hj
          exact absurd hi (nin i)
      · rw [List.getElem?_append_right (by omega)] at hi
        have hi1 : i - as.length < 1 := (List.getElem?_eq_some_iff.mp hi).1
        rw [show i - as.length = 0 by omega] at hi
        cases hi
        by_cases c' : j < as.length
        · rw [List.getElem?_append_left c'] at hj
          exact absurd hj (nin j)
        · rw [List.getElem?_append_right (by omega)] at hj
          have : j - as.length < 1 := (List.getElem?_eq_some_iff.mp hj).1
          omega
    · have new_u : ∀ {l : Nat} {u : TL}, (T ++ [mkL E R W O S q])[l]? = some u → (l < T.length ∧ T[l]? = some u) ∨ (l = T.length ∧ u = mkL E R W O S q) := fun {l u} h => by
        by_cases c : l < T.length
        · rw [List.getElem?_append_left c] at h
          exact Or.inl ⟨c, h⟩
        · rw [List.getElem?_append_right (by omega)] at h
          have : l - T.length < 1 := (List.getElem?_eq_some_iff.mp h).1
          rw [show l - T.length = 0 by omega] at h
          exact Or.inr ⟨by omega, (Option.some.inj h).symm⟩
      show (if l = T.length then an p else ad l p) = (if l' = T.length then an p' else ad l' p') → l = l' ∧ p = p'
      rcases new_u hu with ⟨c, h⟩ | ⟨c, h⟩ <;> rcases new_u hu' with ⟨c', h'⟩ | ⟨c', h'⟩
      · rw [if_neg (by omega), if_neg (by omega)]
        exact l4 l p l' p' u u' h h' hp hp'
      · rw [if_neg (by omega), if_pos c']
        intro z
        rw [h', newlen] at hp'
        have z1 := adlt l p u h hp
        have z2 := p1 p' hp'
        omega
      · rw [if_pos c, if_neg (by omega)]
        intro z
        rw [h, newlen] at hp
        have z1 := adlt l' p' u' h' hp'
        have z2 := p1 p hp
        omega
      · rw [if_pos c, if_pos c']
        intro z
        rw [h, newlen] at hp
        rw [h', newlen] at hp'
        exact ⟨by omega, p2 p p' hp hp' z⟩
    · show x + 57 < b ∧ cL x Md (fun p => if l = T.length then an p else ad l p) u b
      by_cases c : l < T.length
      · rw [List.getElem?_append_left c] at hu
        rw [List.getElem?_append_left (by omega)] at hl
        have e : (fun p => if l = T.length then an p else ad l p) = ad l := funext fun p => if_neg (by omega)
        rw [e]
        exact old l b u hl hu
      · rw [List.getElem?_append_right (by omega)] at hu hl
        have : l - T.length < 1 := (List.getElem?_eq_some_iff.mp hu).1
        rw [show l - T.length = 0 by omega] at hu
        rw [show l - as.length = 0 by omega] at hl
        have e : (fun p => if l = T.length then an p else ad l p) = an := funext fun p => if_pos (by omega)
        rw [e]
        have hu : mkL E R W O S q = u := Option.some.inj hu
        have hl : mT Ma = b := Option.some.inj hl
        subst hu
        subst hl
        exact ⟨by omega, new⟩
  refine ⟨Md, run3, hXc.frL fD (fun _ q => q.elim) (fun _ q => q) (fun _ q => q.elim) hXL', ?_⟩
  exact (fall.tr (fD.mo (Nat.le_refl _) (fun _ q => q.elim) (fun _ => id) (fun _ => id) (fun _ => id))).mo (by omega) (fun _ => id) (fun _ => id) (fun _ => id) (fun _ => id)
end OPS
