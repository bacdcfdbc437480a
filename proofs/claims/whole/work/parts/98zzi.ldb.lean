/-! LOADING: both sides, all the steps -/
section OPS
variable {x : Nat} {E E' : List TE} {R R' : List TR} {F F' : List TF} {W W' : List TW} {O O' : List TO} {T T' : List TL} {S S' : TS} {jW jO jW' jO' n : Nat} {M M' M1 : Mem}
theorem valOK.mono {o o' : Nat} {s f : Int32} {v : Int64} (h : valOK E F W O o s f v) (hE : shE E E') (hW : gwW W W') (hO : ∀ (i : Nat) (q : TO), O[i]? = some q → O'[i]? = some q) (ho : o ≤ o') : valOK E' F W' O' o' s f v := by
  obtain ⟨a, b, c, d, e⟩ := h.sh hE
  refine ⟨a, b, c, fun z => ?_, fun z => ?_⟩
  · rcases d z with d | ⟨r, w', y1, y2⟩
    · exact Or.inl d
    · exact Or.inr ⟨r, w', hW r w' y1, y2⟩
  · rcases e z with e | ⟨i, q', g, fq, y1, y2, y3⟩
    · exact Or.inl e
    · exact Or.inr ⟨i, q', g, fq, by omega, hO i q' y2, y3⟩
/-- those that wait, as the class has them -/
def SK (E : List TE) (R : List TR) (F : List TF) (W : List TW) (O : List TO) (T : List TL) (as : List Nat) (M : Mem) (ss : List (Nat × List Int64)) : Prop :=
  ∀ e ∈ ss, ∃ (a : Nat) (q : TL) (rc : TR), (as[e.1]? = some a ∧ T[e.1]? = some q ∧ q.2.2.2 = -1 ∧ R[q.1]? = some rc) ∧ (gI M 388 a = nI e.2.length ∧ e.2.length ≤ rc.1.length ∧ ∀ (i : Nat) (v : Int64), e.2[i]? = some v → aJ M (a + 1) i = v) ∧ ∀ (p : Nat) (s : TP) (v : Int64), rc.1[p]? = some s → e.2[p]? = some v → valOK E F W O O.length s.2.1 s.2.2.1 v
theorem SK.mono {as : List Nat} {ss : List (Nat × List Int64)} (h : SK E R F W O T as M ss) (hE : shE E E') (hR : shR R R') (hW : gwW W W') (hO : ∀ (i : Nat) (q : TO), O[i]? = some q → O'[i]? = some q) (hOl : O.length ≤ O'.length) (hT : ∀ e ∈ ss, ∀ q, T[e.1]? = some q → ∃ q', T'[e.1]? = some q' ∧ q'.1 = q.1 ∧ q'.2.2.2 = q.2.2.2) (hM : ∀ e ∈ ss, ∀ a, as[e.1]? = some a → gI M' 388 a = gI M 388 a ∧ aJ M' (a + 1) = aJ M (a + 1)) : SK E' R' F W' O' T' as M' ss := fun e he => by
  obtain ⟨a, q, rc, ⟨h1, h2, h3, h4⟩, ⟨h5, h6, h7⟩, h8⟩ := h e he
  obtain ⟨q', t1, t2, t3⟩ := hT e he q h2
  obtain ⟨rc', r1, r2, -⟩ := hR.2 q.1 rc h4
  obtain ⟨m1, m2⟩ := hM e he a h1
  refine ⟨a, q', rc', ⟨h1, t1, by rw [t3]; exact h3, by rw [t2]; exact r1⟩, ⟨by rw [m1]; exact h5, by rw [r2]; exact h6, fun i v hi => by rw [m2]; exact h7 i v hi⟩, fun p s v hs hv => ?_⟩
  rw [r2] at hs
  exact (h8 p s v hs hv).mono hE hW hO hOl
def sumL : List (Nat × List Int64) → Nat
  | [] => 0
  | e :: ss => 1 + e.2.length + sumL ss
theorem sumL_le : ∀ {ss : List (Nat × List Int64)}, (∀ e ∈ ss, e.2.length ≤ 6) → sumL ss ≤ 7 * ss.length := by
  intro ss
  induction ss with
  | nil => intro _; exact Nat.le_refl _
  | cons e ss ih =>
    intro h
    have h1 := h e List.mem_cons_self
    have h2 := ih (fun e he => h e (List.mem_cons_of_mem _ he))
    rw [List.length_cons]
    unfold sumL
    omega
def BN (E : List TE) (R : List TR) (F : List TF) (T : List TL) : Prop := E.length ≤ 4 ∧ (∀ (e : Nat) (q : TE), E[e]? = some q → q.1.length ≤ 8) ∧ R.length ≤ 6 ∧ (∀ (r : Nat) (q : TR), R[r]? = some q → q.1.length ≤ 6) ∧ F.length ≤ 3 ∧ T.length ≤ 64
theorem BN.sh (h : BN E R F T) (hE : shE E E') (hR : shR R R') (hT : T'.length = T.length) : BN E' R' F T' := by
  obtain ⟨b1, b2, b3, b4, b5, b6⟩ := h
  refine ⟨by rw [hE.1]; exact b1, fun e q he => ?_, by rw [hR.1]; exact b3, fun r q hr => ?_, b5, by rw [hT]; exact b6⟩
  · have hl : e < E'.length := (List.getElem?_eq_some_iff.mp he).1
    rw [hE.1] at hl
    have h0 : E[e]? = some E[e] := List.getElem?_eq_getElem hl
    obtain ⟨q', y1, y2⟩ := hE.2 e _ h0
    rw [he] at y1
    cases y1
    rw [y2]
    exact b2 e _ h0
  · obtain ⟨q0, y1, y2, -⟩ := hR.back hr
    rw [y2]
    exact b4 r q0 y1
def LB (x : Nat) (F : List TF) (fi s : Nat) (E : List TE) (R : List TR) (W : List TW) (O : List TO) (T : List TL) (S : TS) (jW jO : Nat) (ss : List (Nat × List Int64)) (M : Mem) : Prop :=
  ∃ (v : Int32) (E' : List TE) (R' : List TR) (W' : List TW) (O' : List TO) (T' : List TL) (S' : TS) (jW' jO' nn : Nat) (M' : Mem), (rn PP 146 31 [some (pR (some x)), some (pI (nI fi)), some (pI (nI ss.length)), some (pI 512), some (pI (nI s)), none, none, none, none, none, none] [] M = some (some (pI v), M') ∧ XI x E' R' F W' O' T' S' jW' jO' M' ∧ AW E' R' F W' O' T' S' jW' jO' ∧ Fr x KX (AX x) (AX x) (AX x) nn M M') ∧ (nn + 64 * (W.length + jW + O.length + jO) ≤ 64 * (W'.length + jW' + O'.length + jO') ∧ T'.length = T.length) ∧
    ∀ (m : Nat) (Mm : Mem), MI m E R F W O T S Mm → MK m Mm ss → ∃ Mm', rn PP 222 53 [some (pR (some m)), some (pI (nI fi)), some (pI (nI ss.length)), some (pI 0), none, none, none, none, none, none] [] Mm = some (some (pI v), Mm') ∧ CU m Mm Mm' ∧ MI m E' R' F W' O' T' S' Mm'
theorem LB.step {fi s : Nat} {ss ss' : List (Nat × List Int64)} (h : LB x F fi (s + 1) E' R' W' O' T' S' jW' jO' ss' M1) (hc : rn PP 146 31 [some (pR (some x)), some (pI (nI fi)), some (pI (nI ss.length)), some (pI 512), some (pI (nI s)), none, none, none, none, none, none] [] M = rn PP 146 31 [some (pR (some x)), some (pI (nI fi)), some (pI (nI ss'.length)), some (pI 512), some (pI (nI (s + 1))), none, none, none, none, none, none] [] M1) (f : Fr x KX (AX x) (AX x) (AX x) n M M1) (hn : n + 64 * (W.length + jW + O.length + jO) ≤ 64 * (W'.length + jW' + O'.length + jO')) (hT : T'.length = T.length) (hm : ∀ (m : Nat) (Mm : Mem), MI m E R F W O T S Mm → MK m Mm ss → ∃ Me, rn PP 222 53 [some (pR (some m)), some (pI (nI fi)), some (pI (nI ss.length)), some (pI 0), none, none, none, none, none, none] [] Mm = rn PP 222 53 [some (pR (some m)), some (pI (nI fi)), some (pI (nI ss'.length)), some (pI 0), none, none, none, none, none, none] [] Me ∧ CU m Mm Me ∧ MI m E' R' F W' O' T' S' Me ∧ MK m Me ss') : LB x F fi s E R W O T S jW jO ss M := by
  obtain ⟨v, E2, R2, W2, O2, T2, S2, jW2, jO2, n2, M2, ⟨h1, h2, h3, h4⟩, ⟨h5, h6⟩, h7⟩ := h
  refine ⟨v, E2, R2, W2, O2, T2, S2, jW2, jO2, n + n2, M2, ⟨hc.trans h1, h2, h3, f.tr h4⟩, ⟨by omega, h6.trans hT⟩, fun m Mm hMm hk => ?_⟩
  obtain ⟨Me, e1, e2, e3, e4⟩ := hm m Mm hMm hk
  obtain ⟨Mz, z1, z2, z3⟩ := h7 m Me e3 e4
  exact ⟨Mz, e1.trans z1, e2.tr z2, z3⟩
theorem LB.done {fi s : Nat} {q : TL} {as : List Nat} {ad : Nat → Nat → Nat} (hX : XI x E R F W O T S jW jO M) (aw : AW E R F W O T S jW jO) (hla : XLa x M as ad T) (hq : T[fi]? = some q) : LB x F fi s E R W O T S jW jO [] M :=
  ⟨q.2.2.2, E, R, W, O, T, S, jW, jO, 0, M, ⟨c_ld_end hX hla hq, hX, aw, Fr.rf hX.1.2.1 hX.1.2.2⟩, ⟨by omega, rfl⟩, fun m Mm hMm _ => ⟨Mm, m_ld_end hMm hq, CU.rf, hMm⟩⟩
theorem Fr.ofF {a nn : Nat} (f : Fr x KF (fun l => l = x + 4) (fun d => d = x + 9) (JF x a M) nn M M1) (hxa : x + 57 < a) : Fr x KX (AX x) (AX x) (AX x) nn M M1 := f.mo (Nat.le_refl _) (fun k q => by rcases q with q | q | q | q | q | q <;> (subst q; decide)) (fun l q => by omega) (fun d q => by omega) (fun d q => by
  rcases q with q | q
  · have := q.1; omega
  · omega)
theorem Fr.ofM {nn : Nat} (f : Fr x KM (fun l => l = x + 5) (fun d => d = x + 6 ∨ d = x + 9) (JO x M) nn M M1) : Fr x KX (AX x) (AX x) (AX x) nn M M1 := f.mo (Nat.le_refl _) (fun k q => by rcases q with q | q | q | q | q | q | q <;> (subst q; decide)) (fun l q => by omega) (fun d q => by omega) (fun d q => by have := q.1; omega)
theorem load_both {as : List Nat} {ad : Nat → Nat → Nat} {fi : Nat} : ∀ (n s : Nat) (E : List TE) (R : List TR) (W : List TW) (O : List TO) (T : List TL) (S : TS) (jW jO : Nat) (ss : List (Nat × List Int64)) (M : Mem), s + n = 512 → XI x E R F W O T S jW jO M → AW E R F W O T S jW jO → XLa x M as ad T → SK E R F W O T as M ss → stkI (aI M (x + 11)) (ss.map Prod.fst) → (ss.map Prod.fst).Pairwise (fun a b => a < b) → BN E R F T → fi < T.length → (ss ≠ [] → s + 1 ≤ sumL ss + 8 * cntL T) → LB x F fi s E R W O T S jW jO ss M := by
  intro n
  induction n with
  | zero =>
    intro s E R W O T S jW jO ss M hs hX aw hla hk hst hpw bn hfi hb
    obtain ⟨qf, hqf⟩ : ∃ q, T[fi]? = some q := ⟨_, List.getElem?_eq_getElem hfi⟩
    cases ss with
    | nil => exact LB.done hX aw hla hqf
    | cons e ss =>
      exfalso
      have hb := hb (fun z => nomatch z)
      have h6 : ∀ e' ∈ e :: ss, e'.2.length ≤ 6 := fun e' he => by
        obtain ⟨a, q, rc, ⟨h1, h2, h3, h4⟩, ⟨h5, h6, h7⟩, h8⟩ := hk e' he
        have := bn.2.2.2.1 q.1 rc h4
        omega
      have hsum := sumL_le h6
      have hdep := dep_le T 0 ((e :: ss).map Prod.fst) hpw (fun i hi => by
        obtain ⟨e', he', rfl⟩ := List.mem_map.mp hi
        obtain ⟨a, q, rc, ⟨h1, h2, h3, h4⟩, -⟩ := hk e' he'
        exact ⟨Nat.zero_le _, q, h2, h3⟩)
      rw [List.length_map] at hdep
      have h64 := bn.2.2.2.2.2
      rw [List.length_cons] at hdep hsum
      omega
  | succ n ih =>
    intro s E R W O T S jW jO ss M hs hX aw hla hk hst hpw bn hfi hb
    obtain ⟨qf, hqf⟩ : ∃ q, T[fi]? = some q := ⟨_, List.getElem?_eq_getElem hfi⟩
    cases ss with
    | nil => exact LB.done hX aw hla hqf
    | cons e ss =>
      obtain ⟨l, vs⟩ := e
      have hb := hb (fun z => nomatch z)
      have h6 : ∀ e' ∈ (l, vs) :: ss, e'.2.length ≤ 6 := fun e' he => by
        obtain ⟨a, q, rc, ⟨h1, h2, h3, h4⟩, ⟨h5, h6, h7⟩, h8⟩ := hk e' he
        have := bn.2.2.2.1 q.1 rc h4
        omega
      have h6s : ∀ e' ∈ ss, e'.2.length ≤ 6 := fun e' he => h6 e' (List.mem_cons_of_mem _ he)
      have hdep := dep_le T 0 (((l, vs) :: ss).map Prod.fst) hpw (fun i hi => by
        obtain ⟨e', he', rfl⟩ := List.mem_map.mp hi
        obtain ⟨a, q, rc, ⟨h1, h2, h3, h4⟩, -⟩ := hk e' he'
        exact ⟨Nat.zero_le _, q, h2, h3⟩)
      rw [List.length_map, List.length_cons] at hdep
      obtain ⟨bE4, bE8, bR6, bP6, bF3, h64⟩ := id bn
      obtain ⟨a, q, rc, ⟨ha, hq, hu, hrc⟩, ⟨h388, hvl, hvs⟩, hval⟩ := hk (l, vs) List.mem_cons_self
      have ha : as[l]? = some a := ha
      have hq : T[l]? = some q := hq
      have h388 : gI M 388 a = nI vs.length := h388
      have hvl : vs.length ≤ rc.1.length := hvl
      have hvs : ∀ (i : Nat) (v : Int64), vs[i]? = some v → aJ M (a + 1) i = v := hvs
      have hks : SK E R F W O T as M ss := fun e he => hk e (List.mem_cons_of_mem _ he)
      have hgt : ∀ e ∈ ss, l < e.1 := fun e he => by
        rw [List.map_cons, List.pairwise_cons] at hpw
        exact hpw.1 e.1 (List.mem_map.mpr ⟨e, he, rfl⟩)
      have hps : (ss.map Prod.fst).Pairwise (fun a b => a < b) := by
        rw [List.map_cons, List.pairwise_cons] at hpw
        exact hpw.2
      obtain ⟨⟨hB, hv, hL⟩, -, -, -, -, -, -, -⟩ := id hX
      obtain ⟨hxa, cl⟩ := hla.2.2.2.2 l a q ha hq
      have haT := lt_of_kd hv cl.1 (by omega)
      have ha1T := lt_of_kd hv cl.2.2.2.2.2.1 (by omega)
      have r11T := lt_of_kd hv hB.r11.2.1 (by omega)
      have hst0 : aI M (x + 11) ss.length = nI l := stkI.map_len hst
      have p6 := bP6 q.1 rc hrc
      have hlT : l < T.length := (List.getElem?_eq_some_iff.mp hq).1
      -- the others' addresses
      have oth : ∀ e ∈ ss, ∀ b, as[e.1]? = some b → b ≠ a ∧ b < mT M ∧ b + 1 < mT M ∧ kd M b = 6 ∧ x + 57 < b := fun e he b hb' => by
        obtain ⟨b2, q2, rc2, ⟨h1, h2, -, -⟩, -⟩ := hks e he
        obtain ⟨y1, y2⟩ := hla.2.2.2.2 e.1 b q2 hb' h2
        refine ⟨fun z => ?_, lt_of_kd hv y2.1 (by omega), lt_of_kd hv y2.2.2.2.2.2.1 (by omega), y2.1, y1⟩
        rw [z] at hb'
        have := hla.2.1 _ _ _ hb' ha
        have := hgt e he
        omega
      obtain ⟨w1, w2, w3, w4, w5, w6, w7, w8, w9, w10⟩ := id aw.2.2.2.2.2
      have hO : O.length < 164 := by omega
      have hW : W.length < 440 := by
        have := cntW_le T (fun q hq => by
          obtain ⟨i, hi, rfl⟩ := List.mem_iff_getElem.mp hq
          obtain ⟨b, -, -, -, -, -, -, -, -, -, -, pq, -, -, -, d4, -⟩ := hla.at (List.getElem?_eq_getElem hi)
          exact d4)
        omega
      have hdl : s < 512 := by omega
      by_cases hpl : vs.length = rc.1.length
      · -- it is closed
        have hV : V21 M (a + 1) vs := ⟨cl.2.2.2.2.2.1, cl.2.2.2.2.2.2.1, by omega, hvs⟩
        obtain ⟨aw1, she, shr⟩ := aw_con (vs := vs) (l := nI l) hrc aw
        rcases c_construct (l := nI l) hX aw hrc hpl bE4 bR6 (by omega) hV hval with ⟨c, M1, hcn, e126, hX1, f1⟩ | ⟨tw, M1, hcn, e126, hX1, f1⟩
        · have neg := con_neg hrc hcn
          have e2 := (c_ld_close (s := s) (fi := fi) hX hla ha hq hrc h388 hst0 hdl hpl (by omega) e126).2 (Int32.not_le.mpr neg)
          refine ⟨-10 - c, _, _, W, O, T, _, jW, jO, 0, M1, ⟨e2, hX1, aw1, f1.ofM⟩, ⟨by omega, rfl⟩, fun m Mm hMm hkm => ?_⟩
          exact (m_ld_close (fi := fi) hMm aw hkm hq hu hrc hpl (by omega) hO hval).1 c hcn
        · have nn : 0 ≤ nI O.length := by
            rw [I32_le, nI_toInt (by omega)]
            have : (0 : Int32).toInt = 0 := rfl
            omega
          have hla1 : XLa x M1 as ad T := hla.fr f1 (by decide) (by omega) ⟨fun k hk h5 z => by
            have := z.2
            rw [Nat.add_sub_cancel] at this
            omega, fun d hd z => by have := z.1; omega⟩
          have k6 : kd M1 a = 6 := by rw [f1.fk haT]; exact cl.1
          have e2 := (c_ld_close (s := s) (fi := fi) hX hla ha hq hrc h388 hst0 hdl hpl (by omega) e126).1 nn k6
          obtain ⟨hX2, hla2, f2⟩ := c_setLd (v := nI O.length) hX1 hla1 ha hq
          have cnl := cntL_ld (v := nI O.length) hq hu (nI_m1 (by omega))
          have ff := f1.ofM.tr (f2.mo (K' := KX) (L' := AX x) (AI' := AX x) (AJ' := AX x) (Nat.le_refl _) (fun k q => by subst q; decide) (fun _ q => q.elim) (fun _ q => q.elim) (fun _ q => q.elim))
          have hTl : (T.set l (q_ld q (nI O.length))).length = T.length := List.length_set
          obtain ⟨rc', hrc', hqp, -⟩ := shr.2 q.1 rc hrc
          have oI : aI (sI M1 389 a (nI O.length)) (x + 11) = aI M (x + 11) := by rw [aI_sI, f1.eI r11T (by omega)]
          have eO : (O ++ [(q.1, vs, (-1 : Int32), tw)]).length = O.length + 1 := by rw [List.length_append]; rfl
          have hk2 : SK (con E R W O S q.1 vs (nI l)).2.1 (con E R W O S q.1 vs (nI l)).2.2.1 F W (O ++ [(q.1, vs, -1, tw)]) (T.set l (q_ld q (nI O.length))) as (sI M1 389 a (nI O.length)) ss := by
            refine hks.mono she shr (fun _ _ h => h) (fun i q h => app_old h) (by rw [eO]; omega) (fun e he q2 h2 => ⟨q2, ?_, rfl, rfl⟩) (fun e he b hb' => ?_)
            · have := hgt e he
              rw [List.getElem?_set, if_neg (by omega)]
              exact h2
            · obtain ⟨o1, o2, o3, o4, o5⟩ := oth e he b hb'
              refine ⟨by rw [gI_sI, up2_ne (by omega), f1.fI (by omega) o2 (by decide)], ?_⟩
              rw [aJ_sI, f1.eJ o3 (fun z => by
                have := z.2
                rw [Nat.add_sub_cancel] at this
                omega)]
          have aw2 : AW (con E R W O S q.1 vs (nI l)).2.1 (con E R W O S q.1 vs (nI l)).2.2.1 F W (O ++ [(q.1, vs, -1, tw)]) (T.set l (q_ld q (nI O.length))) (con E R W O S q.1 vs (nI l)).2.2.2 jW (jO - 1) := by
            have y5 := aw1.2.2.2.2.2.2.2.2.2.1
            refine aw_obj aw1 hrc' (by rw [hqp]; exact hpl) (fun p t v ht hv => (hval p t v (by rw [← hqp]; exact ht) hv).sh she) rfl aw1.2.2.2.2.2.2.2.1 rfl (fun l' u hu' => ?_) hTl (by rw [cnl]; omega) (cntW_ld hq) (by omega)
            rw [List.getElem?_set] at hu'
            by_cases c : l = l'
            · subst c
              rw [if_pos rfl, if_pos (List.getElem?_eq_some_iff.mp hq).1] at hu'
              have hu' : q_ld q (nI O.length) = u := Option.some.inj hu'
              subst hu'
              obtain ⟨t1, -, t3⟩ := aw1.2.2.2.2.1 l q hq
              exact ⟨t1, Or.inr ⟨O.length, by omega, rfl⟩, t3⟩
            · rw [if_neg c] at hu'
              exact (aw1.2.2.2.2.1.mono (Nat.le_refl _) (by omega)) l' u hu'
          have go := ih (s + 1) _ _ W (O ++ [(q.1, vs, -1, tw)]) (T.set l (q_ld q (nI O.length))) _ jW (jO - 1) ss (sI M1 389 a (nI O.length)) (by omega) hX2 aw2 hla2 hk2 (by rw [oI]; exact hst.2) hps (bn.sh she shr hTl) (by rw [hTl]; exact hfi) (fun _ => by
            rw [cnl]
            unfold sumL at hb
            have : (l, vs).2.length = vs.length := rfl
            omega)
          refine go.step e2 ff ?_ hTl (fun m Mm hMm hkm => ?_)
          · rw [eO]
            split <;> omega
          · obtain ⟨Me, y1, y2, y3, y4⟩ := (m_ld_close (fi := fi) hMm aw hkm hq hu hrc hpl (by omega) hO hval).2 hcn
            exact ⟨Me, y1, y2, y3 tw, y4⟩
      · obtain ⟨sp, hsp⟩ : ∃ sp, rc.1[vs.length]? = some sp := ⟨_, List.getElem?_eq_getElem (by omega)⟩
        obtain ⟨ra, e108, hxr, cr, -⟩ := c_recAt hB hX.2.2.1 hrc
        obtain ⟨ka, e65, -, ck, -⟩ := c_partAt cr hsp
        rcases c_ahead hX aw hla ha hq ck with ⟨pk, t, l', q', ⟨hf, ht, t11, s11, hv', hl', hq', hu'⟩, e147⟩ | ⟨e147, hno⟩
        · -- another line comes first
          obtain ⟨a', ha', -, hxa', cl'⟩ := hla.at hq'
          have hr' := (aw.2.2.2.2.1 l' q' hq').1
          have hpw' : (((l', []) :: (l, vs) :: ss).map Prod.fst).Pairwise (fun a b => a < b) := by
            rw [List.map_cons, List.pairwise_cons]
            refine ⟨fun b hb' => ?_, hpw⟩
            obtain ⟨e', he', rfl⟩ := List.mem_map.mp hb'
            rcases List.mem_cons.mp he' with z | z
            · rw [z]; exact hl'
            · have := hgt e' z
              show l' < e'.1
              omega
          have hdep' := dep_le T 0 (((l', ([] : List Int64)) :: (l, vs) :: ss).map Prod.fst) hpw' (fun i hi => by
            obtain ⟨e', he', rfl⟩ := List.mem_map.mp hi
            rcases List.mem_cons.mp he' with z | z
            · rw [z]; exact ⟨Nat.zero_le _, q', hq', hu'⟩
            · obtain ⟨a, q, rc, ⟨h1, h2, h3, h4⟩, -⟩ := hk e' z
              exact ⟨Nat.zero_le _, q, h2, h3⟩)
          rw [List.length_map, List.length_cons, List.length_cons] at hdep'
          have e2 := c_ld_push (s := s) (fi := fi) hX hla ha hq e108 cr e65 h388 hst0 hdl e147 (by omega) ha' hq'
          obtain ⟨hX1, hla1, f1⟩ := c_set388 (v := 0) hX hla ha' hq'
          obtain ⟨hX2, hla2, f2⟩ := c_open (i := ss.length + 1) (v := nI l') hX1 hla1
          have ff := (f1.mo (K' := KX) (L' := AX x) (AI' := AX x) (AJ' := AX x) (Nat.le_refl _) (fun k q => by subst q; decide) (fun _ q => q.elim) (fun _ q => q.elim) (fun _ q => q.elim)).tr (f2.mo (K' := KX) (L' := AX x) (AI' := AX x) (AJ' := AX x) (Nat.le_refl _) (fun _ q => q.elim) (fun _ q => q.elim) (fun d q => by omega) (fun _ q => q.elim))
          have ne' : ∀ e ∈ (l, vs) :: ss, ∀ b, as[e.1]? = some b → b ≠ a' := fun e he b hb' z => by
            rw [z] at hb'
            have := hla.2.1 _ _ _ hb' ha'
            rcases List.mem_cons.mp he with w | w
            · rw [w] at this
              have : l = l' := this
              omega
            · have := hgt e w
              omega
          have hk0 : SK E R F W O T as (wI (sI M 388 a' 0) (x + 11) (ss.length + 1) (nI l')) ((l, vs) :: ss) := hk.mono shE.rf shR.rf (fun _ _ h => h) (fun _ _ h => h) (Nat.le_refl _) (fun e he q2 h2 => ⟨q2, h2, rfl, rfl⟩) (fun e he b hb' => ⟨by rw [gI_wI, gI_sI, up2_no (ne' e he b hb')], by rw [aJ_wI, aJ_sI]⟩)
          obtain ⟨rc2, hrc2⟩ : ∃ rc2, R[q'.1]? = some rc2 := ⟨_, List.getElem?_eq_getElem hr'⟩
          have hk2 : SK E R F W O T as (wI (sI M 388 a' 0) (x + 11) (ss.length + 1) (nI l')) ((l', []) :: (l, vs) :: ss) := fun e he => by
            rcases List.mem_cons.mp he with z | z
            · rw [z]
              refine ⟨a', q', rc2, ⟨ha', hq', hu', hrc2⟩, ⟨?_, Nat.zero_le _, fun i v hi => nomatch hi⟩, fun p s v _ hi => nomatch hi⟩
              rw [gI_wI, gI_sI, up2_at]
              rfl
            · exact hk0 e z
          have hst2 : stkI (aI (wI (sI M 388 a' 0) (x + 11) (ss.length + 1) (nI l')) (x + 11)) (((l', ([] : List Int64)) :: (l, vs) :: ss).map Prod.fst) := by
            rw [aI_wI, up1_at, aI_sI]
            refine ⟨?_, stkI.up hst ?_⟩
            · rw [List.length_map, List.length_cons, up1_at]
            · rw [List.length_map, List.length_cons]; exact Nat.le_refl _
          have go := ih (s + 1) E R W O T S jW jO ((l', []) :: (l, vs) :: ss) _ (by omega) hX2 aw hla2 hk2 hst2 hpw' bn hfi (fun _ => by
            rw [sumL]
            have : ((l', ([] : List Int64))).2.length = 0 := rfl
            omega)
          exact go.step e2 ff (by omega) rfl (fun m Mm hMm hkm => m_ld_push (fi := fi) hMm hkm h6 hq hrc hsp (by omega) hf ht s11 t11 hv' hq' hu')
        · -- the part is filled
          have stepF := c_ld_fill (s := s) (fi := fi) hX hla ha hq e108 cr e65 h388 hst0 hdl (by omega) e147
          obtain ⟨c, v, W', T', S', jW', M1, nn, f0, fn, ⟨hla1, fr1, hi1, hb1⟩, ⟨aw1, hc, hv1, gw, sh, cn, cost⟩, mod⟩ := fill_both hX aw hla ha hq hrc hsp ck h388 (fun pk t h1 h2 h3 h4 l' q' h5 h6 => by
            rcases hno pk t h1 h2 h3 h4 with z | ⟨l2, q2, z1, z2, z3, z4⟩
            · exact absurd (h5.symm.trans z) (lN_ne (by have := (List.getElem?_eq_some_iff.mp h6).1; omega))
            · have := lN_inj (by have := (List.getElem?_eq_some_iff.mp h6).1; omega) (by omega) (h5.symm.trans z1)
              rw [this, z3] at h6
              cases h6
              exact z4) bE4 bE8 bR6 bF3 h64 (by omega) hW (by omega)
          have hna : ∀ (m : Nat) (Mm : Mem), MI m E R F W O T S Mm → ∀ (pk : Nat) (t : TQ), fndQ q.2.2.1 sp.1 0 = some pk → q.2.2.1[pk]? = some t → sp.2.1 = 11 → t.2.1 = 11 → aJ Mm (m + 37) (6 * l + pk) < 0 ∨ ∃ l', l' < 64 ∧ aJ Mm (m + 37) (6 * l + pk) = lN l' ∧ aI Mm (m + 40) l' ≠ -1 := fun m Mm hMm pk t h1 h2 h3 h4 => by
            have mL := hMm.2.2.2.2.2.2.1
            have pkt := (mL.2.2 l q hq).2.2.2.2.2 pk t h2
            have e37 := pkt.2.2.2.1 (Or.inr h4)
            rcases hno pk t h1 h2 h4 h3 with z | ⟨l2, q2, z1, z2, z3, z4⟩
            · left
              rw [e37, z]
              decide
            · exact Or.inr ⟨l2, by omega, e37.trans z1, by rw [(mL.2.2 l2 q2 z3).2.2.2.2.1]; exact z4⟩
          have ff := fr1.ofF hxa
          have cost2 : nn + 64 * (W.length + jW + O.length + jO) ≤ 64 * (W'.length + jW' + O.length + jO) := by omega
          by_cases c0 : c = 0
          · obtain ⟨e148, hX1, g388, av⟩ := f0 c0
            have e2 := (stepF 0 M1 e148).1 (Int32.le_refl _)
            have oI : aI M1 (x + 11) = aI M (x + 11) := fr1.eI r11T (by omega)
            have hk1 : SK E R F W' O T' as M1 ss := hks.mono shE.rf shR.rf gw (fun _ _ h => h) (Nat.le_refl _) (fun e he q2 h2 => sh.2 e.1 q2 h2) (fun e he b hb' => by
              obtain ⟨o1, o2, o3, o4, o5⟩ := oth e he b hb'
              refine ⟨hb1 b o2 o1, fr1.eJ o3 (fun z => ?_)⟩
              rcases z with z | z
              · have := z.2
                rw [Nat.add_sub_cancel] at this
                omega
              · omega)
            have hk2 : SK E R F W' O T' as M1 ((l, vs ++ [v]) :: ss) := fun e he => by
              rcases List.mem_cons.mp he with z | z
              · rw [z]
                obtain ⟨q2, t1, t2, t3⟩ := sh.2 l q hq
                have el : (vs ++ [v]).length = vs.length + 1 := by rw [List.length_append]; rfl
                have sp1 : ∀ (i : Nat) (u : Int64), (vs ++ [v])[i]? = some u → (i < vs.length ∧ vs[i]? = some u) ∨ (i = vs.length ∧ u = v) := fun i u hi => by
                  by_cases c : i < vs.length
                  · rw [List.getElem?_append_left c] at hi
                    exact Or.inl ⟨c, hi⟩
                  · rw [List.getElem?_append_right (by omega)] at hi
                    have : i - vs.length < 1 := (List.getElem?_eq_some_iff.mp hi).1
                    rw [show i - vs.length = 0 by omega] at hi
                    exact Or.inr ⟨by omega, (Option.some.inj hi).symm⟩
                refine ⟨a, q2, rc, ⟨ha, t1, t3.trans hu, by rw [t2]; exact hrc⟩, ⟨?_, ?_, fun i u hi => ?_⟩, fun p s u hs' hi => ?_⟩
                · show gI M1 388 a = nI (vs ++ [v]).length
                  rw [el]
                  exact g388
                · show (vs ++ [v]).length ≤ rc.1.length
                  omega
                · rcases sp1 i u hi with ⟨y1, y2⟩ | ⟨y1, y2⟩
                  · rw [hi1 i (by omega)]
                    exact hvs i u y2
                  · rw [y1, y2]
                    exact av
                · rcases sp1 p u hi with ⟨y1, y2⟩ | ⟨y1, y2⟩
                  · exact (hval p s u hs' y2).mono shE.rf gw (fun _ _ h => h) (Nat.le_refl _)
                  · rw [y1, hsp] at hs'
                    cases hs'
                    rw [y2]
                    exact hv1 c0
              · exact hk1 e z
            have go := ih (s + 1) E R W' O T' S' jW' jO ((l, vs ++ [v]) :: ss) M1 (by omega) hX1 aw1 hla1 hk2 (by rw [oI]; exact hst) hpw (bn.sh shE.rf shR.rf sh.1) (by rw [sh.1]; exact hfi) (fun _ => by
              rw [cn]
              rw [sumL] at hb ⊢
              have h1 : (l, vs ++ [v]).2.length = vs.length + 1 := by show (vs ++ [v]).length = _; rw [List.length_append]; rfl
              have h2 : (l, vs).2.length = vs.length := rfl
              omega)
            refine go.step e2 ff cost2 sh.1 (fun m Mm hMm hkm => ?_)
            obtain ⟨Mc, y1, y2, y3, y4, y5⟩ := mod m Mm hMm
            exact (m_ld_fill (fi := fi) hMm hkm h6s hq hrc hsp (by omega) (hna m Mm hMm) y1 y2 y3 y4 hc y5).1 c0
          · obtain ⟨e148, hX1⟩ := fn c0
            have neg : ¬ (0 : Int32) ≤ -10 - c := by
              rcases hc with z | z | z <;> (rw [z]; decide)
            have e2 := (stepF (-10 - c) M1 e148).2 neg
            refine ⟨-10 - c, E, R, W', O, T', _, jW', jO, nn, M1, ⟨e2, hX1, aw_cau aw1, ff⟩, ⟨cost2, sh.1⟩, fun m Mm hMm hkm => ?_⟩
            obtain ⟨Mc, y1, y2, y3, y4, y5⟩ := mod m Mm hMm
            exact (m_ld_fill (fi := fi) hMm hkm h6s hq hrc hsp (by omega) (hna m Mm hMm) y1 y2 y3 y4 hc y5).2 c0
end OPS
