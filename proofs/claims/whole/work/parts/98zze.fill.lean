/-! LOADING: a part is filled -/
section OPS
variable {x : Nat} {E E' : List TE} {R R' : List TR} {F F' : List TF} {W W' : List TW} {O O' : List TO} {T T' : List TL} {S S' : TS} {jW jO jW' jO' n : Nat} {M M' M1 : Mem}
theorem m_brings_no {m r p l pk : Nat} {rc : TR} {s : TP} {q : TL} {t : TQ} (hM : MI m E R F W O T S M) (hrc : R[r]? = some rc) (hs : rc.1[p]? = some s) (hq : T[l]? = some q) (ht : q.2.2.1[pk]? = some t) (hgs : ¬ gsP t s) (ht1 : 0 ≤ t.2.1 ∧ t.2.1 ≤ 11) (hs1 : 0 ≤ s.2.1 ∧ s.2.1 ≤ 11) : ∃ M', ex 219 10 [pR (some m), pI (nI (6 * r + p)), pI (nI (6 * l + pk))] M = some (some (pI 6), M') ∧ CU m M M' ∧ MI m E R F W O T S M' ∧ AtH m M M' := by
  obtain ⟨mB, -, mR, -, -, -, mL, -⟩ := id hM
  have hrl : r < R.length := (List.getElem?_eq_some_iff.mp hrc).1
  have hr6 := mR.2.1
  obtain ⟨⟨z1, z2, z3⟩, -⟩ := mR.2.2.1 r rc hrc
  have hp : p < rc.1.length := (List.getElem?_eq_some_iff.mp hs).1
  have hl : l < T.length := (List.getElem?_eq_some_iff.mp hq).1
  have hpk : pk < q.2.2.1.length := (List.getElem?_eq_some_iff.mp ht).1
  have h64 := mL.2.1
  obtain ⟨y1, -, -, -, -, y6⟩ := mL.2.2 l q hq
  obtain ⟨p1, p2, p3, -⟩ := y6 pk t ht
  obtain ⟨i, hi, ei⟩ := srt_n ht1
  obtain ⟨j, hj, ej⟩ := srt_n hs1
  have e62 : ∀ v : Int64, rn PP 219 62 [some (pR (some m)), none, none, some (pI s.2.1), some (pI t.2.1), some (pJ v), none, none, none, none] [] M = some (some (pI 6), sJ M 830 m 0) := fun v => by
    rw [tX12_brings_62, tX12_brings_63]
    refine it_t rfl ?_
    rw [tX12_brings_83]
    refine rd_i rfl mB.k (bd_i (it_t rfl ?_))
    rw [tX12_brings_97]
  have e151 : ∀ (v : Int64) (s0 : Int32), (s0 = 0 ∨ (¬ t.2.1 = 11 ∧ 8 ≤ t.2.1 ∧ ¬ t.2.2.1 = s.2.2.1)) → rn PP 219 122 [some (pR (some m)), some (pI (nI (6 * r + p))), some (pI (nI (6 * l + pk))), some (pI s.2.1), some (pI t.2.1), some (pJ v), none, none, none, none] [pI s0] M = some (some (pI 6), M) := fun v s0 h => by
    rw [tX12_brings_122]
    by_cases c : s0 = 0
    · refine it_t c ?_
      rw [tX12_brings_151]
    · obtain ⟨h1, h2, h3⟩ := h.resolve_left c
      refine it_f c (it_f h1 (rd_i rfl mB.k (ix_m (n := 6 * l + pk) mB.a36 rfl (by omega) (by omega) (rd_i rfl mB.k (ix_m (n := 6 * r + p) mB.a8 rfl (by omega) (by omega) (it_f ?_ ?_))))))
      · rw [p3 h2, (z3 p s hs).2.2.1]; exact h3
      · rw [tX12_brings_151]
  have pre : ∀ {rr : Option Rt}, (if t.2.1 < 8 then rn PP 219 36 [some (pR (some m)), none, none, some (pI s.2.1), some (pI t.2.1), some (pJ (aJ M (m + 37) (6 * l + pk))), none, none, none, none] [] M else if 8 ≤ s.2.1 then if t.2.1 = s.2.1 then rn PP 219 117 [some (pR (some m)), some (pI (nI (6 * r + p))), some (pI (nI (6 * l + pk))), some (pI s.2.1), some (pI t.2.1), some (pJ (aJ M (m + 37) (6 * l + pk))), none, none, none, none] [] M else if ¬ t.2.1 = 8 then rn PP 219 121 [some (pR (some m)), some (pI (nI (6 * r + p))), some (pI (nI (6 * l + pk))), some (pI s.2.1), some (pI t.2.1), some (pJ (aJ M (m + 37) (6 * l + pk))), none, none, none, none] [] M else if ¬ s.2.1 = 9 then rn PP 219 121 [some (pR (some m)), some (pI (nI (6 * r + p))), some (pI (nI (6 * l + pk))), some (pI s.2.1), some (pI t.2.1), some (pJ (aJ M (m + 37) (6 * l + pk))), none, none, none, none] [] M else rn PP 219 117 [some (pR (some m)), some (pI (nI (6 * r + p))), some (pI (nI (6 * l + pk))), some (pI s.2.1), some (pI t.2.1), some (pJ (aJ M (m + 37) (6 * l + pk))), none, none, none, none] [] M else rn PP 219 36 [some (pR (some m)), none, none, some (pI s.2.1), some (pI t.2.1), some (pJ (aJ M (m + 37) (6 * l + pk))), none, none, none, none] [] M) = rr → ex 219 10 [pR (some m), pI (nI (6 * r + p)), pI (nI (6 * l + pk))] M = rr := fun {rr} h => by
    rw [tX12_brings]
    refine rd_i rfl mB.k (ix_m (n := 6 * r + p) mB.a7 rfl (by omega) (by omega) (rd_i rfl mB.k (ix_m (n := 6 * l + pk) mB.a35 rfl (by omega) (by omega) (rd_i rfl mB.k (ix_m (n := 6 * l + pk) mB.a37 rfl (by omega) (by omega) ?_)))))
    rw [(z3 p s hs).2.1, p2]
    exact h
  have num : ex 219 10 [pR (some m), pI (nI (6 * r + p)), pI (nI (6 * l + pk))] M = some (some (pI 6), sJ M 830 m 0) → ∃ M', ex 219 10 [pR (some m), pI (nI (6 * r + p)), pI (nI (6 * l + pk))] M = some (some (pI 6), M') ∧ CU m M M' ∧ MI m E R F W O T S M' ∧ AtH m M M' := fun h => ⟨_, h, CU.rf.bJ (by omega), hM.uz UZ.g830, AtH.rf.bJ⟩
  have oth : ex 219 10 [pR (some m), pI (nI (6 * r + p)), pI (nI (6 * l + pk))] M = some (some (pI 6), M) → ∃ M', ex 219 10 [pR (some m), pI (nI (6 * r + p)), pI (nI (6 * l + pk))] M = some (some (pI 6), M') ∧ CU m M M' ∧ MI m E R F W O T S M' ∧ AtH m M M' := fun h => ⟨_, h, CU.rf, hM, AtH.rf⟩
  unfold gsP at hgs
  by_cases t8 : t.2.1 < 8
  · refine num (pre (it_t t8 ?_))
    rw [tX12_brings_36]
    refine it_f (fun z => ge8.mp z t8) ?_
    by_cases s8 : s.2.1 < 8
    · refine it_f (fun z => ge8.mp z s8) ?_
      have hi8 := lt8_n ei hi t8
      have hj8 := lt8_n ej hj s8
      have ne : ¬ (i = j ∨ WD i j) := fun z => by
        rcases z with z | z
        · have he : t.2.1 = s.2.1 := by rw [ei, ej, z]
          rw [if_pos he] at hgs
          exact hgs (Or.inl t8)
        · have he : ¬ t.2.1 = s.2.1 := fun w => by
            rw [ei, ej] at w
            have := nI_inj (by omega) (by omega) w
            omega
          have n9 : ¬ (t.2.1 = 8 ∧ s.2.1 = 9) := fun w => by rw [w.1] at t8; exact absurd t8 (by decide)
          rw [if_neg he, if_neg n9, ei, ej, nI_clamp (by omega), nI_clamp (by omega)] at hgs
          exact hgs z
      have eg := m_goes hi8 hj8 M
      rw [if_neg ne, ← ei, ← ej] at eg
      exact clI_i eg (it_t rfl (e62 _))
    · exact it_t (ge8.mpr s8) (e62 _)
  · have g8 := ge8.mpr t8
    by_cases s8 : s.2.1 < 8
    · refine num (pre (it_f t8 (it_f (fun z => ge8.mp z s8) ?_)))
      rw [tX12_brings_36]
      exact it_t g8 (e62 _)
    · by_cases he : t.2.1 = s.2.1
      · rw [if_pos he] at hgs
        refine oth (pre (it_f t8 (it_t (ge8.mpr s8) (it_t he ?_))))
        rw [tX12_brings_117]
        exact e151 _ 1 (Or.inr ⟨fun z => hgs (Or.inr (Or.inl z)), g8, fun z => hgs (Or.inr (Or.inr z))⟩)
      · rw [if_neg he] at hgs
        by_cases h8 : t.2.1 = 8
        · by_cases h9 : s.2.1 = 9
          · rw [if_pos ⟨h8, h9⟩] at hgs
            refine oth (pre (it_f t8 (it_t (ge8.mpr s8) (it_f he (it_f (not_not_intro h8) (it_f (not_not_intro h9) ?_))))))
            rw [tX12_brings_117]
            exact e151 _ 1 (Or.inr ⟨by rw [h8]; decide, g8, hgs⟩)
          · refine oth (pre (it_f t8 (it_t (ge8.mpr s8) (it_f he (it_f (not_not_intro h8) (it_t h9 ?_))))))
            rw [tX12_brings_121]
            exact e151 _ 0 (Or.inl rfl)
        · refine oth (pre (it_f t8 (it_t (ge8.mpr s8) (it_f he (it_t h8 ?_)))))
          rw [tX12_brings_121]
          exact e151 _ 0 (Or.inl rfl)
abbrev KF : Nat → Prop := fun k => k = 640 ∨ k = 641 ∨ k = 708 ∨ k = 325 ∨ k = 722 ∨ k = 388
abbrev JF (x a : Nat) (M : Mem) : Nat → Prop := fun d => JW x M d ∨ d = a + 1
/-- the class's own writes into a line that is being filled -/
theorem XI.frV {K AJ : Nat → Prop} {a : Nat} (h : XI x E R F W O T S jW jO M) (f : Fr x K No No AJ n M M1) (hK : ∀ k, K k → k = 388) (hJ : ∀ d, AJ d → d = a + 1) (ha : x + 57 < a) (hk : kd M a = 6) : XI x E R F W O T S jW jO M1 := by
  have hT' : XL x M1 T := XL.fr h.2.2.2.2.2.2.1 f (fun k hk z => by have := hK k z; subst this; exact absurd hk (by decide)) id ⟨fun k hk' h5 z => by
    have := hJ _ z
    have e : k = a := by omega
    rw [e] at h5
    omega, fun d hd z => by have := hJ d z; omega⟩
  exact h.frL f (fun k z => by have := hK k z; omega) (fun _ z => z.elim) (fun d z => by have := hJ d z; subst this; exact ⟨by omega, Or.inr (by rw [Nat.add_sub_cancel]; exact hk)⟩) hT'
def FB (x : Nat) (E : List TE) (R : List TR) (F : List TF) (W : List TW) (O : List TO) (T : List TL) (S : TS) (jW jO : Nat) (as : List Nat) (ad : Nat → Nat → Nat) (M : Mem) (q : TL) (s : TP) (p l a ka : Nat) : Prop :=
  ∃ (c : Int32) (v : Int64) (W' : List TW) (T' : List TL) (S' : TS) (jW' : Nat) (M1 : Mem) (nn : Nat),
    (c = 0 → ex 148 7 [pR (some x), pI (nI l), pR (some a), pR (some ka)] M = some (some (pI 0), M1) ∧ XI x E R F W' O T' S' jW' jO M1 ∧ gI M1 388 a = nI (p + 1) ∧ aJ M1 (a + 1) p = v) ∧
    (¬ c = 0 → ex 148 7 [pR (some x), pI (nI l), pR (some a), pR (some ka)] M = some (some (pI (-10 - c)), M1) ∧ XI x E R F W' O T' (cau S' c (nI q.1) (nI p) (-1) (nI l)) jW' jO M1) ∧
    (XLa x M1 as ad T' ∧ Fr x KF (fun l => l = x + 4) (fun d => d = x + 9) (JF x a M) nn M M1 ∧ (∀ i, i ≠ p → aJ M1 (a + 1) i = aJ M (a + 1) i) ∧ (∀ b, b < mT M → b ≠ a → gI M1 388 b = gI M 388 b)) ∧
    (AW E R F W' O T' S' jW' jO ∧ (c = 0 ∨ c = 6 ∨ c = 8) ∧ (c = 0 → valOK E F W' O O.length s.2.1 s.2.2.1 v) ∧ gwW W W' ∧ shT T T' ∧ cntL T' = cntL T ∧ nn + 64 * (W.length + jW) ≤ 64 * (W'.length + jW')) ∧
    (∀ (m : Nat) (Mm : Mem), MI m E R F W O T S Mm → ∃ Mm', ex 223 4 [pR (some m), pI (nI (6 * q.1 + p)), pI (kpI l (fndQ q.2.2.1 s.1 0))] Mm = some (some (pI c), Mm') ∧ CU m Mm Mm' ∧ MI m E R F W' O T' S' Mm' ∧ AtH m Mm Mm' ∧ (c = 0 → gJ Mm' 830 m = v))
theorem fill_both {as : List Nat} {ad : Nat → Nat → Nat} {l a p ka : Nat} {q : TL} {rc : TR} {s : TP} (hX : XI x E R F W O T S jW jO M) (aw : AW E R F W O T S jW jO) (hla : XLa x M as ad T) (ha : as[l]? = some a) (hq : T[l]? = some q) (hrc : R[q.1]? = some rc) (hs : rc.1[p]? = some s) (hp : cP M s ka) (h388 : gI M 388 a = nI p) (hah : ∀ (pk : Nat) (t : TQ), fndQ q.2.2.1 s.1 0 = some pk → q.2.2.1[pk]? = some t → t.2.1 = 11 → s.2.1 = 11 → ∀ (l' : Nat) (q' : TL), t.2.2.2.1 = lN l' → T[l']? = some q' → q'.2.2.2 ≠ -1) (hE4 : E.length ≤ 4) (hE8 : ∀ (e : Nat) (q : TE), E[e]? = some q → q.1.length ≤ 8) (hR6 : R.length ≤ 6) (hF3 : F.length ≤ 3) (hT64 : T.length ≤ 64) (hp6 : p < 6) (hW : W.length < 440) (hO : O.length ≤ 164) : FB x E R F W O T S jW jO as ad M q s p l a ka := by
  obtain ⟨srt, std⟩ := (aw.1 q.1 rc hrc).1 p s hs
  obtain ⟨⟨hB, hv, hL⟩, -, -, -, -, -, -, -⟩ := id hX
  obtain ⟨hxa, cl⟩ := hla.2.2.2.2 l a q ha hq
  obtain ⟨c1, c2, c3, c4, c5, c6, c7, pq, d1, d2, d3, d4, d5⟩ := id cl
  have haT := lt_of_kd hv c1 (by omega)
  have ha1T := lt_of_kd hv c6 (by omega)
  have hlt := hB.lt
  have hl : l < T.length := (List.getElem?_eq_some_iff.mp hq).1
  have e60 := c_keptAs cl s.1
  have hqr : q.1 < 6 := by
    have := (List.getElem?_eq_some_iff.mp hrc).1
    omega
  -- the value is written, the part counts as filled
  have fin : ∀ {W' : List TW} {T' : List TL} {S' : TS} {jW' nn : Nat} {M0 : Mem} {v : Int64}, XI x E R F W' O T' S' jW' jO M0 → XLa x M0 as ad T' → Fr x KV (fun l => l = x + 4) No (JW x M) nn M M0 → XI x E R F W' O T' S' jW' jO (wJ M0 (a + 1) p v) ∧ XLa x (wJ M0 (a + 1) p v) as ad T' ∧ Fr x KF (fun l => l = x + 4) (fun d => d = x + 9) (JF x a M) nn M (wJ M0 (a + 1) p v) ∧ (∀ i, i ≠ p → aJ (wJ M0 (a + 1) p v) (a + 1) i = aJ M (a + 1) i) ∧ gI (wJ M0 (a + 1) p v) 388 a = nI p ∧ gR (wJ M0 (a + 1) p v) 387 a = some (a + 1) ∧ kd (wJ M0 (a + 1) p v) a = 6 ∧ kd (wJ M0 (a + 1) p v) (a + 1) = 21 ∧ ln (wJ M0 (a + 1) p v) (a + 1) = 6 ∧ gI (wJ M0 (a + 1) p v) 384 a = nI q.1 := fun {W' T' S' jW' nn M0 v} hX0 hla0 f0 => by
    have k6 : kd M0 a = 6 := by rw [f0.fk haT]; exact c1
    have f1 : Fr x No No No (fun d => d = a + 1) 0 M0 (wJ M0 (a + 1) p v) := (Fr.rf hX0.1.2.1 hX0.1.2.2).bAJ (Or.inl rfl)
    have nj : ¬ JW x M (a + 1) := fun z => by
      have := z.2
      rw [Nat.add_sub_cancel] at this
      omega
    refine ⟨hX0.frV f1 (fun _ z => z.elim) (fun d z => z) hxa k6, hla0.fr f1 (fun _ _ => id) id ⟨fun k hk h5 z => by
      have e : k = a := by omega
      rw [e] at h5
      omega, fun d hd z => by omega⟩, (f0.mo (K' := KF) (AI' := fun d => d = x + 9) (AJ' := JF x a M) (Nat.le_refl _) (fun k z => by omega) (fun _ => id) (fun _ z => z.elim) (fun _ z => Or.inl z)).tr (f1.mo (Nat.le_refl _) (fun _ z => z.elim) (fun _ z => z.elim) (fun _ z => z.elim) (fun _ z => Or.inr z)), fun i hi => ?_, ?_, ?_, ?_, ?_, ?_, ?_⟩
    · rw [aJ_wJ, up1_at, up1_no hi, f0.eJ ha1T nj]
    · rw [gI_wJ, f0.fI (by omega) haT (by decide)]; exact h388
    · rw [gR_wJ, f0.fR (by omega) haT (by decide)]; exact c5
    · rw [kd_wJ]; exact k6
    · rw [kd_wJ, f0.fk ha1T]; exact c6
    · rw [ln_wJ, f0.fl ha1T]; exact c7
    · rw [gI_wJ, f0.fI (by omega) haT (by decide)]; exact c2
  have inc : ∀ {W' : List TW} {T' : List TL} {S' : TS} {jW' nn : Nat} {M2 : Mem}, XI x E R F W' O T' S' jW' jO M2 → XLa x M2 as ad T' → Fr x KF (fun l => l = x + 4) (fun d => d = x + 9) (JF x a M) nn M M2 → kd M2 a = 6 → gI M2 388 a = nI p → XI x E R F W' O T' S' jW' jO (sI M2 388 a (nI p + 1)) ∧ XLa x (sI M2 388 a (nI p + 1)) as ad T' ∧ Fr x KF (fun l => l = x + 4) (fun d => d = x + 9) (JF x a M) nn M (sI M2 388 a (nI p + 1)) ∧ gI (sI M2 388 a (nI p + 1)) 388 a = nI (p + 1) := fun {W' T' S' jW' nn M2} hX2 hla2 f2 k6 g2 => by
    have f3 : Fr x (fun k => k = 388) No No No 0 M2 (sI M2 388 a (nI p + 1)) := (Fr.rf hX2.1.2.1 hX2.1.2.2).bI (Or.inl ⟨by omega, rfl⟩)
    exact ⟨hX2.frV (a := a) f3 (fun _ z => z) (fun _ z => z.elim) hxa k6, hla2.fr f3 (by decide) id ⟨fun _ _ _ => id, fun _ _ => id⟩, f2.bI (Or.inl ⟨by omega, by omega⟩), by rw [gI_sI, up2_at, nI_1]⟩
  have fl388 : ∀ {W' : List TW} {T' : List TL} {S' : TS} {c : Int32} {jW' nn : Nat} {M2 : Mem}, XI x E R F W' O T' S' jW' jO M2 → XLa x M2 as ad T' → Fr x KF (fun l => l = x + 4) (fun d => d = x + 9) (JF x a M) nn M M2 → ∃ M3, ex 127 6 [pR (some x), pI c, pI (nI q.1), pI (nI p), pI (-1), pI (nI l)] M2 = some (some (pI (-10 - c)), M3) ∧ XI x E R F W' O T' (cau S' c (nI q.1) (nI p) (-1) (nI l)) jW' jO M3 ∧ XLa x M3 as ad T' ∧ Fr x KF (fun l => l = x + 4) (fun d => d = x + 9) (JF x a M) nn M M3 ∧ aJ M3 (a + 1) = aJ M2 (a + 1) ∧ ∀ b, b < mT M → gI M3 388 b = gI M2 388 b := fun {W' T' S' c jW' nn M2} hX2 hla2 f2 => by
    obtain ⟨M3, e127, hX3, f3⟩ := c_failed (c := c) (r := nI q.1) (p := nI p) (k := -1) (l := nI l) hX2
    have hTT := f2.fT
    exact ⟨M3, e127, hX3, hla2.fr f3 (fun _ _ => id) id ⟨fun _ _ _ => id, fun _ _ => id⟩, f2.tr (f3.mo (Nat.le_refl _) (fun _ z => z.elim) (fun _ z => z.elim) (fun _ => id) (fun _ z => z.elim)), by rw [f3.eJ (by omega) id], fun b hb => f3.fI (by omega) (by omega) id⟩
  cases hk : fndQ q.2.2.1 s.1 0 with
  | none =>
    rw [hk] at e60
    obtain ⟨hX2, hla2, f2, i2, g2, r2, k2, l2, n2, q2⟩ := fin (v := s.2.2.2) hX hla (Fr.rf hv hL)
    obtain ⟨hX3, hla3, f3, g3⟩ := inc hX2 hla2 f2 k2 g2
    have o3 : ∀ b, b < mT M → b ≠ a → gI (sI (wJ M (a + 1) p s.2.2.2) 388 a (nI p + 1)) 388 b = gI M 388 b := fun b _ hb => by rw [gI_sI, up2_no hb, gI_wJ]
    refine ⟨0, s.2.2.2, W, T, S, jW, sI (wJ M (a + 1) p s.2.2.2) 388 a (nI p + 1), 0, fun _ => ⟨?_, hX3, g3, by rw [aJ_sI, aJ_wJ, up1_at, up1_at]⟩, fun z => absurd rfl z, ⟨hla3, f3, fun i hi => by rw [aJ_sI]; exact i2 i hi, o3⟩, ⟨aw, Or.inl rfl, fun _ => ?_, fun _ _ h => h, shT.rf, rfl, by omega⟩, fun m Mm hMm => ?_⟩
    · rw [tX11_fillPart]
      refine rd_i rfl c1 (rd_i rfl hp.1 (rd_i rfl c1 ?_))
      rw [hp.2.1, h388]
      refine clR_i e60 (it_t rfl (rd_i rfl c1 (rd_i rfl hp.1 (ix_i (n := p) c5 (Or.inl c6) rfl (by omega) (by omega) ?_))))
      rw [hp.2.2.2.2]
      refine bd_i (it_t rfl (rd_i rfl k2 (rd_i rfl k2 ?_)))
      rw [g2]
      exact bd_i rfl
    · exact ⟨std.1, fun z => Or.inl (std.2.2 (Or.inl z)), fun z => by
        obtain ⟨e, he, hf⟩ := srt.2.2.1 (Or.inr z)
        refine ⟨e, E[e], hf, List.getElem?_eq_getElem he, ?_⟩
        rw [std.2.1 z]
        exact Nat.two_pow_pos _, fun z => Or.inl (std.2.2 (Or.inr (Or.inl z))), fun z => Or.inl (std.2.2 (Or.inr (Or.inr z)))⟩
    · obtain ⟨mB, -, mR, -, -, -, -, -⟩ := id hMm
      refine ⟨sJ Mm 830 m s.2.2.2, ?_, CU.rf.bJ (by omega), hMm.uz UZ.g830, AtH.rf.bJ, fun _ => by rw [gJ_sJ, up2_at]⟩
      rw [hk]
      show ex 223 4 [pR (some m), pI (nI (6 * q.1 + p)), pI (-1)] Mm = _
      rw [tX12_comes]
      refine rd_i rfl mB.k (ix_m (n := 6 * q.1 + p) mB.a9 rfl (by omega) (by omega) (rd_i rfl mB.k ?_))
      rw [((mR.2.2.1 q.1 rc hrc).1.2.2 p s hs).2.2.2]
      exact bd_i (it_f (not_not_intro rfl) rfl)
  | some pk =>
    rw [hk] at e60
    obtain ⟨t, -, ht, -⟩ := fndQ_some _ _ _ hk
    rw [Nat.sub_zero] at ht
    have hpk : pk < q.2.2.1.length := (List.getElem?_eq_some_iff.mp ht).1
    have kok := (aw.2.2.2.2.1 l q hq).2.2 pk t ht
    obtain ⟨xq, cq⟩ := hla.q ha hq ht
    obtain ⟨gt1, gt2⟩ := c_goesTo hB cq hp kok.1 srt.1
    have pre : ∀ {rr : Option Rt}, (clI (ex 58 3 [pR (some (ad l pk)), pR (some ka)] M) fun r8 M6 => if ¬ r8 = 0 then rd (some a) 6 M6 fun a9 => rd (some x) 11 M6 fun a11 => clJ (ex 149 3 [pR (some a11), pR (some (ad l pk)), pR (some ka)] M6) fun r12 M10 => ix 21 21 (gR M6 387 a9) (nI p) M10 fun a13 j14 => bd (wJ M10 a13 j14 r12) fun M15 => rd (some a) 6 M15 fun a16 => ix 21 21 (gR M15 387 a16) (nI p) M15 fun a17 j18 => rd (some x) 11 M15 fun a20 => clI (ex 150 6 [pR (some a20), pR (some (ad l pk)), pR (some ka), pJ (aJ M15 a17 j18)] M15) fun r21 M19 => if r21 = 0 then rd (some a) 6 M19 fun a22 => rd (some a) 6 M19 fun a23 => bd (sI M19 388 a23 (gI M19 388 a22 + 1)) fun M24 => some (some (pI 0), M24) else rd (some a) 6 M19 fun a25 => rd (some x) 11 M19 fun a27 => clI (ex 127 6 [pR (some a27), pI r21, pI (gI M19 384 a25), pI (nI p), pI (-1), pI (nI l)] M19) fun r28 M26 => some (some (pI r28), M26) else if (6 : Int32) = 0 then rd (some a) 6 M6 fun a29 => rd (some a) 6 M6 fun a30 => bd (sI M6 388 a30 (gI M6 388 a29 + 1)) fun M31 => some (some (pI 0), M31) else rd (some a) 6 M6 fun a32 => rd (some x) 11 M6 fun a34 => clI (ex 127 6 [pR (some a34), pI 6, pI (gI M6 384 a32), pI (nI p), pI (-1), pI (nI l)] M6) fun r35 M33 => some (some (pI r35), M33)) = rr → ex 148 7 [pR (some x), pI (nI l), pR (some a), pR (some ka)] M = rr := fun {rr} h => by
      rw [tX11_fillPart]
      refine rd_i rfl c1 (rd_i rfl hp.1 (rd_i rfl c1 ?_))
      rw [hp.2.1, h388]
      exact clR_i e60 (it_f (fun z => nomatch z) (rd_i rfl cq.1 h))
    by_cases hg : gsP t s
    · obtain ⟨c, v, W', T', S', jW', M0, nn, ⟨v1, v2, v3, v4⟩, v5, ⟨v6, v7, v8, v9, v10, v11, v12⟩, v13⟩ := val_both hX aw hla ha hq ht hrc hs hp hg (fun h11 => hah pk t hk ht (by
          unfold gsP at hg
          by_cases he : t.2.1 = s.2.1
          · exact he.trans h11
          · rw [if_neg he] at hg
            rw [if_neg (fun z => by rw [h11] at z; exact absurd z.2 (by decide))] at hg
            exfalso
            have := hg.2.2.1
            rw [h11] at this
            exact absurd this (by decide)) h11) hE4 hE8 hR6 hF3 hT64 d4 hW hO
      obtain ⟨hX2, hla2, f2, i2, g2, r2, k2, l2, n2, q2⟩ := fin (v := v) v2 v3 v4
      have hT0 := v4.fT
      have hp2 : cP (wJ M0 (a + 1) p v) s ka := (hp.fr v4 (by decide)).fr ((Fr.rf v2.1.2.1 v2.1.2.2).bAJ (K := No) (L := No) (AI := No) (AJ := fun d => d = a + 1) (Or.inl rfl)) (fun _ _ => id)
      have e150 := v5 _ hX2 hla2 hp2
      have av : aJ (wJ M0 (a + 1) p v) (a + 1) p = v := by rw [aJ_wJ, up1_at, up1_at]
      have k0 : kd M0 (a + 1) = 21 := by rw [v4.fk ha1T]; exact c6
      have l0 : ln M0 (a + 1) = 6 := by rw [v4.fl ha1T]; exact c7
      have ob : ∀ b, b < mT M → gI (wJ M0 (a + 1) p v) 388 b = gI M 388 b := fun b hb => by rw [gI_wJ, v4.fI (by omega) hb (by decide)]
      have run : ∀ {rr : Option Rt}, (if c = 0 then rd (some a) 6 (wJ M0 (a + 1) p v) fun a22 => rd (some a) 6 (wJ M0 (a + 1) p v) fun a23 => bd (sI (wJ M0 (a + 1) p v) 388 a23 (gI (wJ M0 (a + 1) p v) 388 a22 + 1)) fun M24 => some (some (pI 0), M24) else rd (some a) 6 (wJ M0 (a + 1) p v) fun a25 => rd (some x) 11 (wJ M0 (a + 1) p v) fun a27 => clI (ex 127 6 [pR (some a27), pI c, pI (gI (wJ M0 (a + 1) p v) 384 a25), pI (nI p), pI (-1), pI (nI l)] (wJ M0 (a + 1) p v)) fun r28 M26 => some (some (pI r28), M26)) = rr → ex 148 7 [pR (some x), pI (nI l), pR (some a), pR (some ka)] M = rr := fun {rr} h => by
        refine pre (clI_i (gt1 hg) (it_t (by decide) (rd_i rfl c1 (rd_i rfl hB.k (clJ_i v1 (ix_i (n := p) c5 (Or.inl k0) rfl (by omega) (by omega) (bd_i (rd_i rfl k2 (ix_i (n := p) r2 (Or.inl l2) rfl (by omega) (by omega) (rd_i rfl hX2.1.1.k ?_))))))))))
        rw [av]
        exact clI_i e150 h
      generalize wJ M0 (a + 1) p v = M2 at hX2 hla2 f2 i2 g2 r2 k2 l2 n2 q2 hp2 e150 av ob run
      have mod : ∀ (m : Nat) (Mm : Mem), MI m E R F W O T S Mm → ∃ Mm', ex 223 4 [pR (some m), pI (nI (6 * q.1 + p)), pI (kpI l (some pk))] Mm = some (some (pI c), Mm') ∧ CU m Mm Mm' ∧ MI m E R F W' O T' S' Mm' ∧ AtH m Mm Mm' ∧ (c = 0 → gJ Mm' 830 m = v) := v13
      rw [← hk] at mod
      by_cases c0 : c = 0
      · obtain ⟨hX3, hla3, f3, g3⟩ := inc hX2 hla2 f2 k2 g2
        refine ⟨c, v, W', T', S', jW', sI M2 388 a (nI p + 1), nn, fun _ => ⟨run (it_t c0 (rd_i rfl k2 (rd_i rfl k2 ?_))), hX3, g3, by rw [aJ_sI]; exact av⟩, fun z => absurd c0 z, ⟨hla3, f3, fun i hi => by rw [aJ_sI]; exact i2 i hi, fun b hb hne => by rw [gI_sI, up2_no hne]; exact ob b hb⟩, ⟨v6, v7, v8, v9, v10, v11, v12⟩, mod⟩
        rw [g2]
        exact bd_i rfl
      · obtain ⟨M3, e127, hX3, hla3, f3, j3, b3⟩ := fl388 (c := c) hX2 hla2 f2
        refine ⟨c, v, W', T', S', jW', M3, nn, fun z => absurd z c0, fun _ => ⟨run (it_f c0 (rd_i rfl k2 (rd_i rfl hX2.1.1.k ?_))), hX3⟩, ⟨hla3, f3, fun i hi => by rw [j3]; exact i2 i hi, fun b hb hne => by rw [b3 b hb]; exact ob b hb⟩, ⟨v6, v7, v8, v9, v10, v11, v12⟩, mod⟩
        rw [q2]
        exact clI_i e127 rfl
    · obtain ⟨M3, e127, hX3, hla3, f3, j3, b3⟩ := fl388 (c := 6) (nn := 0) (S' := S) hX hla (Fr.rf hv hL)
      refine ⟨6, 0, W, T, S, jW, M3, 0, fun z => absurd z (by decide), fun _ => ⟨pre (clI_i (gt2 hg) (it_f (not_not_intro rfl) (it_f (by decide) (rd_i rfl c1 (rd_i rfl hB.k ?_))))), hX3⟩, ⟨hla3, f3, fun i hi => by rw [j3], fun b hb hne => b3 b hb⟩, ⟨aw, Or.inr (Or.inl rfl), fun z => absurd z (by decide), fun _ _ h => h, shT.rf, rfl, by omega⟩, fun m Mm hMm => ?_⟩
      · rw [c2]
        exact clI_i e127 rfl
      · have hM5 : MI m E R F W O T S (sJ Mm 830 m s.2.2.2) := hMm.uz UZ.g830
        obtain ⟨M', e1, e2, e3, e4⟩ := m_brings_no hM5 hrc hs hq ht hg kok.1 srt.1
        rw [hk]
        exact ⟨M', m_comes_head hMm hrc hs (by omega) (clI_i e1 (it_t (by decide) rfl)), (CU.rf.bJ (by omega)).tr e2, e3, AtH.rf.bJ.tr e4, fun z => absurd z (by decide)⟩
end OPS
