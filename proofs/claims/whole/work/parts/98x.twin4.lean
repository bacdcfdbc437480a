/-! CALLS: same: the model, the call -/
theorem wI_uI (M : Mem) (a i : Nat) (g : Nat → Int32) (v : Int32) : wI (uI M a g) a i v = uI M a (up1 g i v) := by
  have e : aI (uI M a g) a = g := by rw [aI_uI, up1_at]
  show uI (uI M a g) a (up1 (aI (uI M a g) a) i v) = _
  rw [e, uI_uI]
section OPS
variable {x : Nat} {E E' : List TE} {R R' : List TR} {F F' : List TF} {W W' : List TW} {O O' : List TO} {T T' : List TL} {S S' : TS} {jW jO jW' jO' n : Nat} {M M' M1 : Mem}
/-- what the search downwards has found -/
def DnI (R : List TR) (O : List TO) (o c v : Nat) : Prop := (v = o ∨ (c ≤ v ∧ v < o ∧ twf R O v = v ∧ ky R O v = ky R O o)) ∧ ∀ k, c ≤ k → k < o → twf R O k = k → ky R O k = ky R O o → v ≤ k
theorem DnI.fin {o v : Nat} {nT : Nat} (hw : wfO E R F W O nT) (hl : O.length ≤ 164) (ho : o < O.length) (h : DnI R O o 0 v) : v = twf R O o := by
  obtain ⟨t1, t2, t3⟩ := twf_spec hw hl ho
  have t4 := twf_twf hw hl ho
  obtain ⟨h1, h2⟩ := h
  by_cases c : twf R O o < o
  · have a1 := h2 _ (Nat.zero_le _) c t4 t2
    rcases h1 with h1 | ⟨-, -, -, h1⟩
    · omega
    · have : ¬ v < twf R O o := fun z => t3 v z h1
      omega
  · rcases h1 with h1 | ⟨-, h3, -, h1⟩
    · omega
    · exact absurd h1 (t3 v (by omega))
theorem m_same_in {m o la lb ll : Nat} {nT : Nat} (hM : MI m E R F W O T S M) (hw : wfO E R F W O nT) (ho : o < O.length) : ∀ (c : Nat) (g : Nat → Int32) (v : Nat), c ≤ o → (∀ j, j < o → g j = nI (twf R O j)) → g o = nI v → DnI R O o c v → ∃ g', rn PP 208 55 [some (pR (some m)), some (pI (nI la)), some (pI (nI lb)), some (pI (nI ll)), some (pI (nI o)), some (pI (nI c - 1))] [] (uI M (m + 30) g) = rn PP 208 34 [some (pR (some m)), some (pI (nI la)), some (pI (nI lb)), some (pI (nI ll)), some (pI (nI (o + 1))), none] [] (uI M (m + 30) g') ∧ ∀ j, j < o + 1 → g' j = nI (twf R O j) := by
  have hl := hM.2.2.2.2.2.1.2.1
  intro c
  induction c with
  | zero =>
    intro g v hc hg hgo hd
    refine ⟨g, ?_, fun j hj => ?_⟩
    · rw [tX12_same_55, nI_1]
      exact it_t (by decide) rfl
    · by_cases e : j = o
      · rw [e, hgo, hd.fin hw hl ho]
      · exact hg j (by omega)
  | succ k ih =>
    intro g v hc hg hgo hd
    have hM1 := hM.u30 (g := g)
    have mB1 := hM1.1
    have eg : aI (uI M (m + 30) g) (m + 30) = g := by rw [aI_uI, up1_at]
    have tk : twf R O k < 2147483648 := by
      have := (twf_spec hw hl (show k < O.length by omega)).1
      omega
    obtain ⟨qa, hqa⟩ : ∃ q, O[k]? = some q := ⟨_, List.getElem?_eq_getElem (by omega)⟩
    obtain ⟨qb, hqb⟩ : ∃ q, O[o]? = some q := ⟨_, List.getElem?_eq_getElem ho⟩
    have e207 := m_areLike hM1 hw (show k < o by omega) hqa hqb (fun j hj => by rw [eg]; exact hg j hj)
    -- nothing found at k
    have no : (twf R O k = k → ky R O k = ky R O o → False) → ∃ g', rn PP 208 55 [some (pR (some m)), some (pI (nI la)), some (pI (nI lb)), some (pI (nI ll)), some (pI (nI o)), some (pI (nI k + (-1)))] [] (wI (uI M (m + 30) g) (m + 30) o (g o)) = rn PP 208 34 [some (pR (some m)), some (pI (nI la)), some (pI (nI lb)), some (pI (nI ll)), some (pI (nI (o + 1))), none] [] (uI M (m + 30) g') ∧ ∀ j, j < o + 1 → g' j = nI (twf R O j) := fun hno => by
      rw [wI_uI, nIm1']
      refine ih _ v (by omega) (fun j hj => by rw [up1_no (by omega)]; exact hg j hj) (by rw [up1_at]; exact hgo) ⟨?_, fun j h1 h2 h3 h4 => ?_⟩
      · rcases hd.1 with h | ⟨h1, h2⟩
        · exact Or.inl h
        · exact Or.inr ⟨by omega, h2⟩
      · by_cases e : j = k
        · subst e
          exact (hno h3 h4).elim
        · exact hd.2 j (by omega) h2 h3 h4
    have pre : ∀ {r : Option Rt}, (if ¬ g k = nI k then rn PP 208 55 [some (pR (some m)), some (pI (nI la)), some (pI (nI lb)), some (pI (nI ll)), some (pI (nI o)), some (pI (nI k + (-1)))] [] (wI (uI M (m + 30) g) (m + 30) o (g o)) else clI (ex 207 10 [pR (some m), pI (nI k), pI (nI o)] (uI M (m + 30) g)) fun r13 M11 => if r13 = 0 then rd (some m) 12 M11 fun a14 => ix 20 30 (gR M11 812 a14) (nI o) M11 fun a15 j16 => ix 20 20 (gR (uI M (m + 30) g) 812 m) (nI o) M11 fun a17 j18 => bd (wI M11 a17 j18 (aI M11 a15 j16)) fun M19 => rn PP 208 55 [some (pR (some m)), some (pI (nI la)), some (pI (nI lb)), some (pI (nI ll)), some (pI (nI o)), some (pI (nI k + (-1)))] [] M19 else ix 20 20 (gR (uI M (m + 30) g) 812 m) (nI o) M11 fun a20 j21 => bd (wI M11 a20 j21 (nI k)) fun M22 => rn PP 208 55 [some (pR (some m)), some (pI (nI la)), some (pI (nI lb)), some (pI (nI ll)), some (pI (nI o)), some (pI (nI k + (-1)))] [] M22) = r → rn PP 208 55 [some (pR (some m)), some (pI (nI la)), some (pI (nI lb)), some (pI (nI ll)), some (pI (nI o)), some (pI (nI (k + 1) - 1))] [] (uI M (m + 30) g) = r := fun {r} hr => by
      rw [nI_pred, tX12_same_55]
      refine it_f (nI_pos (by omega)) (rd_i rfl mB1.k (rd_i rfl mB1.k (ix_m (n := k) mB1.a30 rfl (by omega) (by omega) ?_)))
      rw [eg]
      by_cases c : g k = nI k
      · rw [if_neg (not_not_intro c)] at hr
        exact it_f (not_not_intro c) (rd_i rfl mB1.k hr)
      · rw [if_pos c] at hr
        refine it_t c (rd_i rfl mB1.k (ix_m (n := o) mB1.a30 rfl (by omega) (by omega) (ix_m (n := o) mB1.a30 rfl (by omega) (by omega) (bd_i ?_))))
        rw [eg]
        exact hr
    by_cases c1 : g k = nI k
    · have ck : twf R O k = k := nI_inj tk (by omega) (by rw [← hg k (by omega)]; exact c1)
      by_cases c2 : ky R O k = ky R O o
      · rw [decide_eq_true c2] at e207
        have : ∃ g', rn PP 208 55 [some (pR (some m)), some (pI (nI la)), some (pI (nI lb)), some (pI (nI ll)), some (pI (nI o)), some (pI (nI k + (-1)))] [] (wI (uI M (m + 30) g) (m + 30) o (nI k)) = rn PP 208 34 [some (pR (some m)), some (pI (nI la)), some (pI (nI lb)), some (pI (nI ll)), some (pI (nI (o + 1))), none] [] (uI M (m + 30) g') ∧ ∀ j, j < o + 1 → g' j = nI (twf R O j) := by
          rw [wI_uI, nIm1']
          exact ih _ k (by omega) (fun j hj => by rw [up1_no (by omega)]; exact hg j hj) (by rw [up1_at]) ⟨Or.inr ⟨Nat.le_refl _, by omega, ck, c2⟩, fun j h1 h2 h3 h4 => h1⟩
        obtain ⟨g', n1, n2⟩ := this
        exact ⟨g', pre (it_f (not_not_intro c1) (clI_i e207 (it_f (by decide) (ix_m (n := o) mB1.a30 rfl (by omega) (by omega) (bd_i n1))))), n2⟩
      · rw [decide_eq_false c2] at e207
        obtain ⟨g', n1, n2⟩ := no (fun _ z => c2 z)
        refine ⟨g', pre (it_f (not_not_intro c1) (clI_i e207 (it_t rfl (rd_i rfl mB1.k (ix_m (n := o) mB1.a30 rfl (by omega) (by omega) (ix_m (n := o) mB1.a30 rfl (by omega) (by omega) (bd_i ?_))))))), n2⟩
        rw [eg]
        exact n1
    · obtain ⟨g', n1, n2⟩ := no (fun z _ => c1 (by rw [hg k (by omega), z]))
      exact ⟨g', pre (it_t c1 n1), n2⟩
theorem m_same_out {m la lb ll : Nat} {nT : Nat} (hM : MI m E R F W O T S M) (hw : wfO E R F W O nT) (hll : ll < O.length) (ha : la ≤ ll) (hb : lb ≤ ll) : ∀ (c o : Nat) (g : Nat → Int32), c + o = ll + 1 → (∀ j, j < o → g j = nI (twf R O j)) → ∃ g', rn PP 208 34 [some (pR (some m)), some (pI (nI la)), some (pI (nI lb)), some (pI (nI ll)), some (pI (nI o)), none] [] (uI M (m + 30) g) = some (some (pI (if twf R O la = twf R O lb then 1 else 0)), uI M (m + 30) g') := by
  have hl := hM.2.2.2.2.2.1.2.1
  have htw : ∀ j, j ≤ ll → twf R O j < 2147483648 := fun j hj => by
    have := (twf_spec hw hl (show j < O.length by omega)).1
    omega
  intro c
  induction c with
  | zero =>
    intro o g ho hg
    have mB1 := (hM.u30 (g := g)).1
    have eg : aI (uI M (m + 30) g) (m + 30) = g := by rw [aI_uI, up1_at]
    refine ⟨g, ?_⟩
    rw [tX12_same_34]
    refine it_t (nI_lt (by omega) (by omega)) (rd_i rfl mB1.k (ix_m (n := la) mB1.a30 rfl (by omega) (by omega) (rd_i rfl mB1.k (ix_m (n := lb) mB1.a30 rfl (by omega) (by omega) ?_))))
    rw [eg, hg la (by omega), hg lb (by omega)]
    by_cases c : twf R O la = twf R O lb
    · rw [if_pos c]
      exact it_f (not_not_intro (by rw [c])) rfl
    · rw [if_neg c]
      exact it_t (fun z => c (nI_inj (htw la ha) (htw lb hb) z)) rfl
  | succ c ih =>
    intro o g ho hg
    have mB1 := (hM.u30 (g := g)).1
    obtain ⟨g', n1, n2⟩ := m_same_in (la := la) (lb := lb) (ll := ll) hM hw (show o < O.length by omega) o (up1 g o (nI o)) o (Nat.le_refl _) (fun j hj => by rw [up1_no (by omega)]; exact hg j hj) (by rw [up1_at]) ⟨Or.inl rfl, fun k h1 h2 _ _ => by omega⟩
    obtain ⟨g'', n3⟩ := ih (o + 1) g' (by omega) n2
    refine ⟨g'', ?_⟩
    rw [tX12_same_34, ← n3, ← n1]
    refine it_f (fun z => ?_) (rd_i rfl mB1.k (ix_m (n := o) mB1.a30 rfl (by omega) (by omega) (bd_i ?_)))
    · rw [I32_lt, nI_toInt (by omega), nI_toInt (by omega)] at z
      omega
    · rw [wI_uI]
theorem op_same (h : Inv x E R F W O T S jW jO M) (e f : Int32) : Op x W O T jW jO M (fun M => ex 96 5 [pR (some x), pI e, pI f] M) (fun M => ex 208 6 [pR (some (x + 12)), pI e, pI f] M) := by
  obtain ⟨hX, hM, aw⟩ := id h
  obtain ⟨⟨hB, hv, hL⟩, -, -, -, -, hO, -, -⟩ := id hX
  obtain ⟨mB, -, -, -, -, mO, -, -⟩ := id hM
  have hOl := mO.2.1
  have c111 : ∀ e : Int32, (oob e O.length ∧ ex 111 3 [pR (some x), pJ e.toInt64] M = some (some (pR none), M)) ∨ ∃ k q a, e = nI k ∧ O[k]? = some q ∧ ex 16 2 [pR (some (x + 5)), pI (nI k)] M = some (some (pR (some a)), M) ∧ cO M (some q) a ∧ ex 111 3 [pR (some x), pJ e.toInt64] M = some (some (pR (some a)), M) := fun e => by
    rcases oob_or e O.length (by omega) with ho | ⟨k, hk, rfl⟩
    · exact Or.inl ⟨ho, c_objAt_no hB hO (oobL (by omega) ho)⟩
    · obtain ⟨q, hq⟩ : ∃ q, O[k]? = some q := ⟨_, List.getElem?_eq_getElem hk⟩
      obtain ⟨a, g1, -, g3, -⟩ := hO.at hq
      exact Or.inr ⟨k, q, a, rfl, hq, g1, g3, by rw [nI_l (by omega)]; exact c_objAt_ad hB hO hq g1⟩
  rcases c111 e with ⟨ho, e1⟩ | ⟨ka, qa, aa, rfl, hqa, ga, ca, e1⟩
  · have e2 : ∃ r, ex 111 3 [pR (some x), pJ f.toInt64] M = some (some (pR r), M) := by
      rcases c111 f with ⟨-, e2⟩ | ⟨k, q, a, -, -, -, -, e2⟩
      · exact ⟨_, e2⟩
      · exact ⟨_, e2⟩
    obtain ⟨r, e2⟩ := e2
    refine Op.keep h (v := pI (-1)) ?_ ?_
    · show ex 96 5 [pR (some x), pI e, pI f] M = _
      rw [tX11_same]
      exact rd_i rfl hB.k (clR_i e1 (rd_i rfl hB.k (clR_i e2 (it_t rfl rfl))))
    · show ex 208 6 [pR (some (x + 12)), pI e, pI f] M = _
      rw [tX12_same]
      exact rd_i rfl mB.k (clI_i (m_isObj_no mB mO ho) (it_t rfl rfl))
  have hka : ka < O.length := (List.getElem?_eq_some_iff.mp hqa).1
  rcases c111 f with ⟨ho, e2⟩ | ⟨kb, qb, ab, rfl, hqb, gb, cb, e2⟩
  · refine Op.keep h (v := pI (-1)) ?_ ?_
    · show ex 96 5 [pR (some x), pI (nI ka), pI f] M = _
      rw [tX11_same]
      exact rd_i rfl hB.k (clR_i e1 (rd_i rfl hB.k (clR_i e2 (it_f (fun q => nomatch q) (it_t rfl rfl)))))
    · show ex 208 6 [pR (some (x + 12)), pI (nI ka), pI f] M = _
      rw [tX12_same]
      exact rd_i rfl mB.k (clI_i (m_isObj mB mO hka) (it_f (by decide) (rd_i rfl mB.k (clI_i (m_isObj_no mB mO ho) (it_f (not_not_intro rfl) rfl)))))
  have hkb : kb < O.length := (List.getElem?_eq_some_iff.mp hqb).1
  obtain ⟨O', M1, e133, hX1, sh, hln, htw, f1, aw1⟩ := c_findTwins hX aw hOl
  obtain ⟨qa', hqa', -⟩ := sh.2 ka qa hqa
  obtain ⟨qb', hqb', -⟩ := sh.2 kb qb hqb
  have lift : ∀ (k : Nat) (q q' : TO) (a : Nat), O[k]? = some q → O'[k]? = some q' → ex 16 2 [pR (some (x + 5)), pI (nI k)] M = some (some (pR (some a)), M) → cO M1 (some q') a := fun k q q' a h1 h2 h3 => by
    have u1 : (O.map some ++ List.replicate jO none)[k]? = some (some q) := by
      rw [List.getElem?_append_left (by rw [List.length_map]; exact (List.getElem?_eq_some_iff.mp h1).1), List.getElem?_map, h1]; rfl
    have u2 : (O'.map some ++ List.replicate jO none)[k]? = some (some q') := by
      rw [List.getElem?_append_left (by rw [List.length_map]; exact (List.getElem?_eq_some_iff.mp h2).1), List.getElem?_map, h2]; rfl
    exact (isO.stay hO.1 hX1.2.2.2.2.2.1.1 (f1.ls id) u1 u2 h3).2.2
  have ca1 := lift ka qa qa' aa hqa hqa' ga
  have cb1 := lift kb qb qb' ab hqb hqb' gb
  have tb : ∀ j, j < O.length → twf R O' j < 2147483648 := fun j hj => by
    have := (twf_spec aw1.2.2.2.1 (by rw [sh.1]; exact hOl) (show j < O'.length by rw [sh.1]; exact hj)).1
    omega
  refine Op.chg (O' := O') (S' := twS S O.length) (v := pI (if twf R O ka = twf R O kb then 1 else 0)) h (M1 := M1) ?_ (f1.mo (n' := 0) (Nat.le_refl _) (fun k q => by rcases q with q | q <;> (subst q; decide)) (fun _ q => q.elim) (fun _ q => q.elim) (fun _ q => q.elim)) hX1 (fun hM1 => ?_) aw1 (by unfold pot; rw [sh.1]; omega)
  · show ex 96 5 [pR (some x), pI (nI ka), pI (nI kb)] M = _
    rw [tX11_same]
    refine rd_i rfl hB.k (clR_i e1 (rd_i rfl hB.k (clR_i e2 (it_f (fun q => nomatch q) (it_f (fun q => nomatch q) (rd_i rfl hB.k (clV_i e133 (rd_i rfl ca1.1 (rd_i rfl cb1.1 ?_)))))))))
    rw [(ca1.2.2.2.2 qa' rfl).2.2.1, (cb1.2.2.2.2 qb' rfl).2.2.1, htw ka qa' hka hqa', htw kb qb' hkb hqb', ← twf_sh sh ka, ← twf_sh sh kb]
    by_cases c : twf R O' ka = twf R O' kb
    · rw [if_pos c]
      exact it_f (not_not_intro (by rw [c])) rfl
    · rw [if_neg c]
      exact it_t (fun z => c (nI_inj (tb ka hka) (tb kb hkb) z)) rfl
  · obtain ⟨mB1, -, -, -, -, mO1, -, -⟩ := id hM1
    have fin : ∀ g, MI (x + 12) E R F W O' T (twS S O.length) (uI M1 (x + 12 + 30) g) := fun g => by
      obtain ⟨h1, h2, h3, h4, h5, h6, h7, h8⟩ := hM1.u30 (g := g)
      refine ⟨h1, h2, h3, h4, h5, ⟨by rw [sh.1]; exact h6.1, by rw [sh.1]; exact h6.2.1, fun r q hq => ?_⟩, h7, h8⟩
      obtain ⟨q0, y1, y2, y3⟩ := sh.back hq
      rw [y2, y3, hln r q0 q y1 hq]
      exact h6.2.2 r q0 y1
    have m0 : ∀ ll, ll < O.length → ka ≤ ll → kb ≤ ll → ∃ g', rn PP 208 34 [some (pR (some (x + 12))), some (pI (nI ka)), some (pI (nI kb)), some (pI (nI ll)), some (pI 0), none] [] M1 = some (some (pI (if twf R O ka = twf R O kb then 1 else 0)), uI M1 (x + 12 + 30) g') := fun ll h1 h2 h3 => by
      have := m_same_out (la := ka) (lb := kb) (ll := ll) hM1 aw.2.2.2.1 h1 h2 h3 (ll + 1) 0 (aI M1 (x + 12 + 30)) (by omega) (fun j hj => by omega)
      rw [uI_self] at this
      exact this
    by_cases c : nI ka ≤ nI kb
    · have c' : ka ≤ kb := by
        rw [I32_le, nI_toInt (by omega), nI_toInt (by omega)] at c
        omega
      obtain ⟨g', n1⟩ := m0 kb hkb c' (Nat.le_refl _)
      refine ⟨_, ?_, CU.rf.bAI (by omega), fin g'⟩
      show ex 208 6 [pR (some (x + 12)), pI (nI ka), pI (nI kb)] M1 = _
      rw [tX12_same]
      exact rd_i rfl mB1.k (clI_i (m_isObj mB1 mO1 hka) (it_f (by decide) (rd_i rfl mB1.k (clI_i (m_isObj mB1 mO1 hkb) (it_t (by decide) (it_t c n1))))))
    · have c' : kb ≤ ka := by
        rw [I32_le, nI_toInt (by omega), nI_toInt (by omega)] at c
        omega
      obtain ⟨g', n1⟩ := m0 ka hka (Nat.le_refl _) c'
      refine ⟨_, ?_, CU.rf.bAI (by omega), fin g'⟩
      show ex 208 6 [pR (some (x + 12)), pI (nI ka), pI (nI kb)] M1 = _
      rw [tX12_same]
      exact rd_i rfl mB1.k (clI_i (m_isObj mB1 mO1 hka) (it_f (by decide) (rd_i rfl mB1.k (clI_i (m_isObj mB1 mO1 hkb) (it_t (by decide) (it_f c n1))))))
end OPS
