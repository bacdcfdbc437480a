/-! LOADING: one step, each side for itself -/
section OPS
variable {x : Nat} {E E' : List TE} {R R' : List TR} {F F' : List TF} {W W' : List TW} {O O' : List TO} {T T' : List TL} {S S' : TS} {jW jO jW' jO' n : Nat} {M M' M1 : Mem}
theorem c_set388 {as : List Nat} {ad : Nat → Nat → Nat} {l a : Nat} {q : TL} {v : Int32} (hX : XI x E R F W O T S jW jO M) (hla : XLa x M as ad T) (ha : as[l]? = some a) (hq : T[l]? = some q) : XI x E R F W O T S jW jO (sI M 388 a v) ∧ XLa x (sI M 388 a v) as ad T ∧ Fr x (fun k => k = 388) No No No 0 M (sI M 388 a v) := by
  obtain ⟨hxa, cl⟩ := hla.2.2.2.2 l a q ha hq
  have f3 : Fr x (fun k => k = 388) No No No 0 M (sI M 388 a v) := (Fr.rf hX.1.2.1 hX.1.2.2).bI (Or.inl ⟨by omega, rfl⟩)
  exact ⟨hX.frV (a := a) f3 (fun _ z => z) (fun _ z => z.elim) hxa cl.1, hla.fr f3 (by decide) id ⟨fun _ _ _ => id, fun _ _ => id⟩, f3⟩
theorem c_open {as : List Nat} {ad : Nat → Nat → Nat} {i : Nat} {v : Int32} (hX : XI x E R F W O T S jW jO M) (hla : XLa x M as ad T) : XI x E R F W O T S jW jO (wI M (x + 11) i v) ∧ XLa x (wI M (x + 11) i v) as ad T ∧ Fr x No No (fun d => d = x + 11) No 0 M (wI M (x + 11) i v) := by
  have f1 : Fr x No No (fun d => d = x + 11) No 0 M (wI M (x + 11) i v) := (Fr.rf hX.1.2.1 hX.1.2.2).bAI (Or.inl rfl)
  exact ⟨hX.frS f1 (fun _ q => q.elim) (fun d q => by omega) (fun _ q => q.elim) (hX.2.2.2.2.2.2.2.fr hX.1.1 f1 (fun _ _ => id) ⟨by omega, by omega⟩ id), hla.fr f1 (fun _ _ => id) id ⟨fun _ _ _ => id, fun _ _ => id⟩, f1⟩
theorem c_ld_push {as : List Nat} {ad : Nat → Nat → Nat} {l a d p s fi l' a' ra ka : Nat} {q q' : TL} {rc : TR} (hX : XI x E R F W O T S jW jO M) (hla : XLa x M as ad T) (ha : as[l]? = some a) (hq : T[l]? = some q) (e108 : ex 108 2 [pR (some x), pI (nI q.1)] M = some (some (pR (some ra)), M)) (cr : cR x M rc ra) (e65 : ex 65 2 [pR (some ra), pI (nI p)] M = some (some (pR (some ka)), M)) (h388 : gI M 388 a = nI p) (hst : aI M (x + 11) d = nI l) (hs : s < 512) (h147 : ex 147 5 [pR (some x), pR (some a), pR (some ka)] M = some (some (pI (nI l')), M)) (hd : d ≤ 62) (ha' : as[l']? = some a') (hq' : T[l']? = some q') : rn PP 146 31 [some (pR (some x)), some (pI (nI fi)), some (pI (nI (d + 1))), some (pI 512), some (pI (nI s)), none, none, none, none, none, none] [] M = rn PP 146 31 [some (pR (some x)), some (pI (nI fi)), some (pI (nI (d + 2))), some (pI 512), some (pI (nI (s + 1))), none, none, none, none, none, none] [] (wI (sI M 388 a' 0) (x + 11) (d + 1) (nI l')) := by
  have hB := hX.1.1
  have r11 := hB.r11
  have h1002 := hla.len
  obtain ⟨hxa, cl⟩ := hla.2.2.2.2 l a q ha hq
  obtain ⟨hxa', cl'⟩ := hla.2.2.2.2 l' a' q' ha' hq'
  have hl' : l' < T.length := (List.getElem?_eq_some_iff.mp hq').1
  obtain ⟨hX1, -, -⟩ := c_set388 (v := 0) hX hla ha' hq'
  have hB1 := hX1.1.1
  have r11' := hB1.r11
  have s512 : ¬ (512 : Int32) ≤ nI s := nI_ge (b := 512) (by omega) (by omega)
  conv => lhs; rw [tX11_loadInOrder_31]
  refine it_f s512 (it_f (fun z => ?_) (rd_i rfl hB.k (ix_i (n := d) r11.1 (Or.inl r11.2.1) (by rw [nI_pred]) (by rw [r11.2.2]; omega) (by omega) ?_)))
  · rw [I32_le, nI_toInt (by omega)] at z
    have : (0 : Int32).toInt = 0 := rfl
    omega
  rw [hst]
  refine rd_i rfl hB.k (rd_i hB.r10.1 hB.r10.2 (clR_i (L_get hla.1 ha) (ck_s rfl cl.1 (rd_i rfl cl.1 (rd_i rfl hB.k ?_)))))
  rw [cl.2.1]
  refine clR_i e108 (it_f (fun z => nomatch z) (rd_i rfl cl.1 (rd_i rfl cr.1 ?_)))
  rw [h388]
  refine clR_i e65 (it_f (fun z => nomatch z) (rd_i rfl hB.k (clI_i h147 (it_f (nI_m1 (by omega)) (rd_i rfl hB.k (al_i r11.1 (by rw [r11.2.1]; omega) (it_f (by rw [r11.2.2]; exact nI_ge (by omega) (by omega)) (rd_i rfl hB.k (rd_i hB.r10.1 hB.r10.2 (clR_i (L_get hla.1 ha') (ck_s rfl cl'.1 (rd_i rfl cl'.1 (bd_i (rd_i rfl hB1.k (ix_i (n := d + 1) r11'.1 (Or.inl r11'.2.1) rfl (by rw [r11'.2.2]; omega) (by omega) (bd_i ?_))))))))))))))))
  rw [nI_1, nI_1]
theorem c_ld_fill {as : List Nat} {ad : Nat → Nat → Nat} {l a d p s fi ra ka : Nat} {q : TL} {rc : TR} (hX : XI x E R F W O T S jW jO M) (hla : XLa x M as ad T) (ha : as[l]? = some a) (hq : T[l]? = some q) (e108 : ex 108 2 [pR (some x), pI (nI q.1)] M = some (some (pR (some ra)), M)) (cr : cR x M rc ra) (e65 : ex 65 2 [pR (some ra), pI (nI p)] M = some (some (pR (some ka)), M)) (h388 : gI M 388 a = nI p) (hst : aI M (x + 11) d = nI l) (hs : s < 512) (hd : d ≤ 63) : (ex 147 5 [pR (some x), pR (some a), pR (some ka)] M = some (some (pI (-1)), M) → ∀ (r : Int32) (M1 : Mem), ex 148 7 [pR (some x), pI (nI l), pR (some a), pR (some ka)] M = some (some (pI r), M1) → (0 ≤ r → rn PP 146 31 [some (pR (some x)), some (pI (nI fi)), some (pI (nI (d + 1))), some (pI 512), some (pI (nI s)), none, none, none, none, none, none] [] M = rn PP 146 31 [some (pR (some x)), some (pI (nI fi)), some (pI (nI (d + 1))), some (pI 512), some (pI (nI (s + 1))), none, none, none, none, none, none] [] M1) ∧ (¬ 0 ≤ r → rn PP 146 31 [some (pR (some x)), some (pI (nI fi)), some (pI (nI (d + 1))), some (pI 512), some (pI (nI s)), none, none, none, none, none, none] [] M = some (some (pI r), M1))) := by
  have hB := hX.1.1
  have r11 := hB.r11
  obtain ⟨hxa, cl⟩ := hla.2.2.2.2 l a q ha hq
  have s512 : ¬ (512 : Int32) ≤ nI s := nI_ge (b := 512) (by omega) (by omega)
  intro e147 r M1 e148
  have npos : ¬ nI (d + 1) ≤ 0 := fun z => by
    rw [I32_le, nI_toInt (by omega)] at z
    have : (0 : Int32).toInt = 0 := rfl
    omega
  refine ⟨fun h0 => ?_, fun h0 => ?_⟩
  · conv => lhs; rw [tX11_loadInOrder_31]
    refine it_f s512 (it_f npos (rd_i rfl hB.k (ix_i (n := d) r11.1 (Or.inl r11.2.1) (by rw [nI_pred]) (by rw [r11.2.2]; omega) (by omega) ?_)))
    rw [hst]
    refine rd_i rfl hB.k (rd_i hB.r10.1 hB.r10.2 (clR_i (L_get hla.1 ha) (ck_s rfl cl.1 (rd_i rfl cl.1 (rd_i rfl hB.k ?_)))))
    rw [cl.2.1]
    refine clR_i e108 (it_f (fun z => nomatch z) (rd_i rfl cl.1 (rd_i rfl cr.1 ?_)))
    rw [h388]
    refine clR_i e65 (it_f (fun z => nomatch z) (rd_i rfl hB.k (clI_i e147 (it_t rfl (it_f (fun z => nomatch z) (rd_i rfl hB.k (clI_i e148 (it_t h0 (it_f (fun z => nomatch z) ?_)))))))))
    rw [nI_1]
  · rw [tX11_loadInOrder_31]
    refine it_f s512 (it_f npos (rd_i rfl hB.k (ix_i (n := d) r11.1 (Or.inl r11.2.1) (by rw [nI_pred]) (by rw [r11.2.2]; omega) (by omega) ?_)))
    rw [hst]
    refine rd_i rfl hB.k (rd_i hB.r10.1 hB.r10.2 (clR_i (L_get hla.1 ha) (ck_s rfl cl.1 (rd_i rfl cl.1 (rd_i rfl hB.k ?_)))))
    rw [cl.2.1]
    refine clR_i e108 (it_f (fun z => nomatch z) (rd_i rfl cl.1 (rd_i rfl cr.1 ?_)))
    rw [h388]
    exact clR_i e65 (it_f (fun z => nomatch z) (rd_i rfl hB.k (clI_i e147 (it_t rfl (it_f (fun z => nomatch z) (rd_i rfl hB.k (clI_i e148 (it_f h0 rfl))))))))
theorem c_ld_close {as : List Nat} {ad : Nat → Nat → Nat} {l a d p s fi : Nat} {q : TL} {rc : TR} {r : Int32} (hX : XI x E R F W O T S jW jO M) (hla : XLa x M as ad T) (ha : as[l]? = some a) (hq : T[l]? = some q) (hrc : R[q.1]? = some rc) (h388 : gI M 388 a = nI p) (hst : aI M (x + 11) d = nI l) (hs : s < 512) (hsp : p = rc.1.length) (hd : d ≤ 63) (e126 : ex 126 9 [pR (some x), pI (nI q.1), pR (some (a + 1)), pI (nI l)] M = some (some (pI r), M1)) : (0 ≤ r → kd M1 a = 6 → rn PP 146 31 [some (pR (some x)), some (pI (nI fi)), some (pI (nI (d + 1))), some (pI 512), some (pI (nI s)), none, none, none, none, none, none] [] M = rn PP 146 31 [some (pR (some x)), some (pI (nI fi)), some (pI (nI d)), some (pI 512), some (pI (nI (s + 1))), none, none, none, none, none, none] [] (sI M1 389 a r)) ∧ (¬ 0 ≤ r → rn PP 146 31 [some (pR (some x)), some (pI (nI fi)), some (pI (nI (d + 1))), some (pI 512), some (pI (nI s)), none, none, none, none, none, none] [] M = some (some (pI r), M1)) := by
  have hB := hX.1.1
  have r11 := hB.r11
  obtain ⟨hxa, cl⟩ := hla.2.2.2.2 l a q ha hq
  obtain ⟨ra, e108, hxr, cr, -⟩ := c_recAt hB hX.2.2.1 hrc
  have e65 := c_partAt_no (e := nI p) cr (Or.inr (by rw [hsp]; exact Int32.le_refl _))
  have s512 : ¬ (512 : Int32) ≤ nI s := nI_ge (b := 512) (by omega) (by omega)
  have npos : ¬ nI (d + 1) ≤ 0 := fun z => by
    rw [I32_le, nI_toInt (by omega)] at z
    have : (0 : Int32).toInt = 0 := rfl
    omega
  refine ⟨fun h0 k6 => ?_, fun h0 => ?_⟩
  · conv => lhs; rw [tX11_loadInOrder_31]
    refine it_f s512 (it_f npos (rd_i rfl hB.k (ix_i (n := d) r11.1 (Or.inl r11.2.1) (by rw [nI_pred]) (by rw [r11.2.2]; omega) (by omega) ?_)))
    rw [hst]
    refine rd_i rfl hB.k (rd_i hB.r10.1 hB.r10.2 (clR_i (L_get hla.1 ha) (ck_s rfl cl.1 (rd_i rfl cl.1 (rd_i rfl hB.k ?_)))))
    rw [cl.2.1]
    refine clR_i e108 (it_f (fun z => nomatch z) (rd_i rfl cl.1 (rd_i rfl cr.1 ?_)))
    rw [h388]
    refine clR_i e65 (it_t rfl (it_t rfl (it_t rfl (rd_i rfl cl.1 (rd_i rfl cl.1 (rd_i rfl hB.k ?_))))))
    rw [cl.2.1, cl.2.2.2.2.1]
    refine clI_i e126 (it_t h0 (it_t rfl (rd_i rfl k6 (bd_i ?_))))
    rw [nI_dec, nI_1]
  · rw [tX11_loadInOrder_31]
    refine it_f s512 (it_f npos (rd_i rfl hB.k (ix_i (n := d) r11.1 (Or.inl r11.2.1) (by rw [nI_pred]) (by rw [r11.2.2]; omega) (by omega) ?_)))
    rw [hst]
    refine rd_i rfl hB.k (rd_i hB.r10.1 hB.r10.2 (clR_i (L_get hla.1 ha) (ck_s rfl cl.1 (rd_i rfl cl.1 (rd_i rfl hB.k ?_)))))
    rw [cl.2.1]
    refine clR_i e108 (it_f (fun z => nomatch z) (rd_i rfl cl.1 (rd_i rfl cr.1 ?_)))
    rw [h388]
    refine clR_i e65 (it_t rfl (it_t rfl (it_t rfl (rd_i rfl cl.1 (rd_i rfl cl.1 (rd_i rfl hB.k ?_))))))
    rw [cl.2.1, cl.2.2.2.2.1]
    exact clI_i e126 (it_f h0 rfl)
/-- all are loaded -/
theorem c_ld_end {as : List Nat} {ad : Nat → Nat → Nat} {s fi : Nat} {q : TL} (hX : XI x E R F W O T S jW jO M) (hla : XLa x M as ad T) (hq : T[fi]? = some q) : rn PP 146 31 [some (pR (some x)), some (pI (nI fi)), some (pI (nI 0)), some (pI 512), some (pI (nI s)), none, none, none, none, none, none] [] M = some (some (pI q.2.2.2), M) := by
  have hB := hX.1.1
  obtain ⟨a, ha, g16, hxa, cl⟩ := hla.at hq
  rw [tX11_loadInOrder_31]
  by_cases c : (512 : Int32) ≤ nI s
  · refine it_t c (rd_i rfl hB.k (rd_i hB.r10.1 hB.r10.2 (clR_i g16 (ck_s rfl cl.1 (rd_i rfl cl.1 ?_)))))
    rw [cl.2.2.2.1]
  · refine it_f c (it_t (by decide) (rd_i rfl hB.k (rd_i hB.r10.1 hB.r10.2 (clR_i g16 (ck_s rfl cl.1 (rd_i rfl cl.1 ?_))))))
    rw [cl.2.2.2.1]
theorem m_ld_end {m fi : Nat} {q : TL} (hM : MI m E R F W O T S M) (hq : T[fi]? = some q) : rn PP 222 53 [some (pR (some m)), some (pI (nI fi)), some (pI (nI 0)), some (pI 0), none, none, none, none, none, none] [] M = some (some (pI q.2.2.2), M) := by
  obtain ⟨mB, -, -, -, -, -, mL, -⟩ := id hM
  have hl : fi < T.length := (List.getElem?_eq_some_iff.mp hq).1
  have h64 := mL.2.1
  rw [tX12_load_53]
  refine it_t (by decide) (it_t rfl (rd_i rfl mB.k (ix_m (n := fi) mB.a40 rfl (by omega) (by omega) ?_)))
  rw [(mL.2.2 fi q hq).2.2.2.2.1]
theorem set_self {α : Type} {l : Nat} {T : List α} {q : α} (h : T[l]? = some q) : T.set l q = T := by
  apply List.ext_getElem?
  intro i
  rw [List.getElem?_set]
  by_cases c : l = i
  · subst c
    rw [if_pos rfl, if_pos (List.getElem?_eq_some_iff.mp h).1, h]
  · rw [if_neg c]
theorem m_ld_close {m l fi : Nat} {vs : List Int64} {ss : List (Nat × List Int64)} {q : TL} {rc : TR} (hM : MI m E R F W O T S M) (aw : AW E R F W O T S jW jO) (hk : MK m M ((l, vs) :: ss)) (hq : T[l]? = some q) (hu : q.2.2.2 = -1) (hrc : R[q.1]? = some rc) (hvl : vs.length = rc.1.length) (hss : ss.length ≤ 63) (hO : O.length < 164) (hval : ∀ (p : Nat) (t : TP) (v : Int64), rc.1[p]? = some t → vs[p]? = some v → valOK E F W O O.length t.2.1 t.2.2.1 v) : (∀ c, (con E R W O S q.1 vs (nI l)).1 = some c → ∃ Me, rn PP 222 53 [some (pR (some m)), some (pI (nI fi)), some (pI (nI (ss.length + 1))), some (pI 0), none, none, none, none, none, none] [] M = some (some (pI (-10 - c)), Me) ∧ CU m M Me ∧ MI m (con E R W O S q.1 vs (nI l)).2.1 (con E R W O S q.1 vs (nI l)).2.2.1 F W O T (con E R W O S q.1 vs (nI l)).2.2.2 Me) ∧ ((con E R W O S q.1 vs (nI l)).1 = none → ∃ Me, rn PP 222 53 [some (pR (some m)), some (pI (nI fi)), some (pI (nI (ss.length + 1))), some (pI 0), none, none, none, none, none, none] [] M = rn PP 222 53 [some (pR (some m)), some (pI (nI fi)), some (pI (nI ss.length)), some (pI 0), none, none, none, none, none, none] [] Me ∧ CU m M Me ∧ (∀ tw, MI m (con E R W O S q.1 vs (nI l)).2.1 (con E R W O S q.1 vs (nI l)).2.2.1 F W (O ++ [(q.1, vs, -1, tw)]) (T.set l (q_ld q (nI O.length))) (con E R W O S q.1 vs (nI l)).2.2.2 Me) ∧ MK m Me ss) := by
  obtain ⟨mB, -, mR, -, -, -, mL, -⟩ := id hM
  have hl : l < T.length := (List.getElem?_eq_some_iff.mp hq).1
  have hr : q.1 < R.length := (List.getElem?_eq_some_iff.mp hrc).1
  have hr6 := mR.2.1
  have h64 := mL.2.1
  obtain ⟨⟨z1, z2, z3⟩, -⟩ := mR.2.2.1 q.1 rc hrc
  obtain ⟨y1, y2, y3, y4, y5, y6⟩ := mL.2.2 l q hq
  have hst := stkI.map_len hk.1
  have h43 : aI M (m + 43) ss.length = nI vs.length := hk.2.1
  have npos : ¬ nI (ss.length + 1) ≤ 0 := fun z => by
    rw [I32_le, nI_toInt (by omega)] at z
    have : (0 : Int32).toInt = 0 := rfl
    omega
  have ip : nI (ss.length + 1) - 1 = nI ss.length := by rw [nI_pred]
  obtain ⟨g, e105, hg⟩ := m_ld105 (m := m) (l := l) (r := q.1) (fi := fi) (d := ss.length) (vs := vs) (by omega) (by omega) (by omega) vs.length 0 M (by omega) mB (by rw [z2, hvl]) hk.2.2.1 (fun j v hj => by omega)
  have hM1 : MI m E R F W O T S (uJ M (m + 29) g) := hM.uz (UZ.rf.uJ (by decide))
  have cu1 : CU m M (uJ M (m + 29) g) := CU.rf.bAJ (by omega)
  have k1 : stkI (aI (uJ M (m + 29) g) (m + 42)) (ss.map Prod.fst) ∧ comI (aI (uJ M (m + 29) g) (m + 43)) (aJ (uJ M (m + 29) g) (m + 45)) ss := by
    rw [aI_uJ, aJ_uJ, up1_no (by omega)]
    exact ⟨hk.1.2, hk.2.2.2⟩
  have hnow : ∀ (i : Nat) (v : Int64), vs[i]? = some v → aJ (uJ M (m + 29) g) (m + 29) i = v := fun i v hi => by rw [aJ_uJ, up1_at]; exact hg i v hi
  have e5 : aI (uJ M (m + 29) g) (m + 5) q.1 = nI vs.length := by rw [aI_uJ, z2, hvl]
  have run : ∀ {rr : Option Rt}, rn PP 222 105 [some (pR (some m)), some (pI (nI fi)), some (pI (nI (ss.length + 1))), none, some (pI (nI l)), some (pI (nI q.1)), none, some (pI (nI vs.length)), none, none] [] (uJ M (m + 29) g) = rr → rn PP 222 53 [some (pR (some m)), some (pI (nI fi)), some (pI (nI (ss.length + 1))), some (pI 0), none, none, none, none, none, none] [] M = rr := fun {rr} h => by
    rw [tX12_load_53]
    refine it_f npos (it_f (not_not_intro rfl) (rd_i rfl mB.k (ix_m (n := ss.length) mB.a42 ip (by omega) (by omega) ?_)))
    rw [hst]
    refine rd_i rfl mB.k (ix_m (n := l) mB.a31 rfl (by omega) (by omega) (rd_i rfl mB.k (ix_m (n := ss.length) mB.a43 ip (by omega) (by omega) ?_)))
    rw [y2, h43]
    refine rd_i rfl mB.k (ix_m (n := q.1) mB.a5 rfl (by omega) (by omega) ?_)
    rw [z2]
    exact it_f (not_not_intro (by rw [hvl])) (e105.trans h)
  generalize uJ M (m + 29) g = M1 at hM1 cu1 k1 hnow e5 run
  obtain ⟨no, yes⟩ := m_made (l := nI l) hM1 aw hrc hvl hnow hO hval
  have le5 : aI M1 (m + 5) q.1 ≤ nI vs.length := by rw [e5]; exact Int32.le_refl _
  refine ⟨fun c hc => ?_, fun hc => ?_⟩
  · obtain ⟨M2, e199, cu2, hM2, -⟩ := no c hc
    have neg := con_neg hrc hc
    have nn : ¬ 0 ≤ -10 - c := Int32.not_le.mpr neg
    have nz : ¬ (-10 - c : Int32) = 0 := fun z => by rw [z] at neg; exact absurd neg (by decide)
    have hM3 := hM2.set40 (l := l) (v := -1) hq
    have eT : T.set l (q_ld q (-1)) = T := by
      have : q_ld q (-1) = q := by rw [← hu]; rfl
      rw [this]
      exact set_self hq
    rw [eT] at hM3
    refine ⟨_, run ?_, (cu1.tr cu2).wI (by omega), hM3⟩
    rw [tX12_load_105]
    refine rd_i rfl hM1.1.k (ix_m (n := q.1) hM1.1.a5 rfl (by omega) (by omega) (it_t le5 (rd_i rfl hM1.1.k (clI_i e199 (it_f nn (rd_i rfl hM2.1.k (it_f nn (ix_m (n := l) hM2.1.a40 rfl (by omega) (by omega) (bd_i ?_)))))))))
    rw [nI_dec, tX12_load_53]
    by_cases c0 : nI ss.length ≤ 0
    · exact it_t c0 (it_f nz rfl)
    · exact it_f c0 (it_t nz (it_f nz rfl))
  · obtain ⟨M2, e199, cu2, hM2, at2⟩ := yes hc
    have nn : 0 ≤ nI O.length := by
      rw [I32_le, nI_toInt (by omega)]
      have : (0 : Int32).toInt = 0 := rfl
      omega
    refine ⟨_, run ?_, (cu1.tr cu2).wI (by omega), fun tw => (hM2 tw).set40 (l := l) (v := nI O.length) hq, ?_⟩
    · have mB2 := (hM2 0).1
      rw [tX12_load_105]
      refine rd_i rfl hM1.1.k (ix_m (n := q.1) hM1.1.a5 rfl (by omega) (by omega) (it_t le5 (rd_i rfl hM1.1.k (clI_i e199 (it_t nn (rd_i rfl mB2.k (it_t nn (ix_m (n := l) mB2.a40 rfl (by omega) (by omega) (bd_i ?_)))))))))
      rw [nI_dec]
    · have at3 : AtH m M1 (wI M2 (m + 40) l (nI O.length)) := at2.wI (by omega) (by omega)
      exact MK.ath k1 at3
end OPS
