/-! CALLS: keep -/
section OPS
variable {x : Nat} {E E' : List TE} {R R' : List TR} {F F' : List TF} {W W' : List TW} {O O' : List TO} {T T' : List TL} {S S' : TS} {jW jO jW' jO' n : Nat} {M M' M1 : Mem}
theorem m_scan {m a0 k : Nat} {q : TO} {rc : TR} {ss : List Nat} (aw : AW E R F W O T S jW jO) (hq : O[k]? = some q) (hrc : R[q.1]? = some rc) (hvl : q.2.1.length = rc.1.length) (hss : ss.length ≤ 64) : ∀ (n p : Nat) (M : Mem), n + p = rc.1.length → MI m E R F W O T S M → stkI (aI M (m + 42)) (k :: ss) → aI M (m + 43) ss.length = nI p → NK R O q p → (∀ c, fck O (chn R q) = some c → ∃ (M' : Mem) (p' : Nat) (t : TP) (v : Int64), rn PP 213 62 [some (pR (some m)), some (pI (nI a0)), some (pI (nI (ss.length + 1))), none, none, none, none, none] [] M = rn PP 213 62 [some (pR (some m)), some (pI (nI a0)), some (pI (nI (ss.length + 2))), none, none, none, none, none] [] M' ∧ CU m M M' ∧ MI m E R F W O T S M' ∧ stkI (aI M' (m + 42)) (c :: k :: ss) ∧ aI M' (m + 43) (ss.length + 1) = nI 0 ∧ aI M' (m + 43) ss.length = nI (p' + 1) ∧ (∀ j, j < ss.length → aI M' (m + 43) j = aI M (m + 43) j) ∧ NK R O q p' ∧ rc.1[p']? = some t ∧ q.2.1[p']? = some v ∧ t.2.1 = 11 ∧ v = lN c) ∧ (fck O (chn R q) = none → ∃ M' : Mem, rn PP 213 62 [some (pR (some m)), some (pI (nI a0)), some (pI (nI (ss.length + 1))), none, none, none, none, none] [] M = (clV (ex 214 6 [pR (some m), pI (nI k)] M') fun M39 => rn PP 213 62 [some (pR (some m)), some (pI (nI a0)), some (pI (nI ss.length)), none, none, none, none, none] [] M39) ∧ CU m M M' ∧ MI m E R F W O T S M' ∧ aI M' (m + 42) = aI M (m + 42) ∧ (∀ j, j < ss.length → aI M' (m + 43) j = aI M (m + 43) j)) := by
  have hk : k < O.length := (List.getElem?_eq_some_iff.mp hq).1
  have hr : q.1 < R.length := (List.getElem?_eq_some_iff.mp hrc).1
  obtain ⟨rc', u1, -, -, hval⟩ := aw.2.2.2.1 k q hq
  rw [hrc] at u1
  cases u1
  have npos : ¬ nI (ss.length + 1) ≤ 0 := fun z => by
    rw [I32_le, nI_toInt (by omega)] at z
    have : (0 : Int32).toInt = 0 := rfl
    omega
  intro n
  induction n with
  | zero =>
    intro p M hp hM hst h43 hnk
    obtain ⟨mB, -, mR, -, -, mO, -, -⟩ := id hM
    have hr6 := mR.2.1
    have ho164 := mO.2.1
    obtain ⟨w1, w2, w3, w4⟩ := mO.2.2 k q hq
    obtain ⟨⟨z1, z2, z3⟩, -⟩ := mR.2.2.1 q.1 rc hrc
    have hn : fck O (chn R q) = none := by
      rw [NK_fck hrc hvl p (by omega) hnk, List.drop_of_length_le (show rc.1.length ≤ p by omega), chl_n]
      rfl
    refine ⟨fun c hc => (by rw [hn] at hc; exact (nomatch hc)), fun _ => ⟨M, ?_, CU.rf, hM, rfl, fun _ _ => rfl⟩⟩
    rw [tX12_keep_62]
    refine it_f npos (rd_i rfl mB.k (ix_m (n := ss.length) mB.a42 (by rw [nI_pred]) (by omega) (by omega) (rd_i rfl mB.k (ix_m (n := ss.length) mB.a43 (by rw [nI_pred]) (by omega) (by omega) (rd_i rfl mB.k ?_)))))
    rw [hst.1, h43]
    refine ix_m (n := k) mB.a25 rfl (by omega) (by omega) (rd_i rfl mB.k ?_)
    rw [w2]
    refine ix_m (n := q.1) mB.a5 rfl (by omega) (by omega) (it_f (not_not_intro (by rw [z2, show p = rc.1.length by omega])) (rd_i rfl mB.k ?_))
    rw [nI_dec]
  | succ n ih =>
    intro p M hp hM hst h43 hnk
    obtain ⟨mB, -, mR, -, -, mO, -, -⟩ := id hM
    have hr6 := mR.2.1
    have ho164 := mO.2.1
    obtain ⟨w1, w2, w3, w4⟩ := mO.2.2 k q hq
    obtain ⟨⟨z1, z2, z3⟩, -⟩ := mR.2.2.1 q.1 rc hrc
    obtain ⟨t, ht, hdt⟩ := drop_get (l := rc.1) (i := p) (by omega)
    obtain ⟨v, hv, hdv⟩ := drop_get (l := q.2.1) (i := p) (by omega)
    have hM1 : MI m E R F W O T S (wI M (m + 43) ss.length (nI (p + 1))) := hM.uz (UZ.rf.wI (by decide))
    have mB1 := hM1.1
    have s7 := (hM1.2.2.1.2.2.1 q.1 rc hrc).1.2.2 p t ht
    have s26 := (hM1.2.2.2.2.2.1.2.2 k q hq).2.2.2 p v hv
    have st1 : stkI (aI (wI M (m + 43) ss.length (nI (p + 1))) (m + 42)) (k :: ss) := by rw [aI_wI, up1_no (by omega)]; exact hst
    have p1 : aI (wI M (m + 43) ss.length (nI (p + 1))) (m + 43) ss.length = nI (p + 1) := by rw [aI_wI, up1_at, up1_at]
    have pl : ∀ j, j < ss.length → aI (wI M (m + 43) ss.length (nI (p + 1))) (m + 43) j = aI M (m + 43) j := fun j hj => by rw [aI_wI, up1_at, up1_no (by omega)]
    have e42 : aI (wI M (m + 43) ss.length (nI (p + 1))) (m + 42) = aI M (m + 42) := by rw [aI_wI, up1_no (by omega)]
    have cu1 : CU m M (wI M (m + 43) ss.length (nI (p + 1))) := CU.rf.wI (by omega)
    have pre : ∀ {rr : Option Rt}, (if ¬ t.2.1 = 11 then rn PP 213 62 [some (pR (some m)), some (pI (nI a0)), some (pI (nI (ss.length + 1))), none, none, none, none, none] [] (wI M (m + 43) ss.length (nI (p + 1))) else if lg_cmp v (0 : Int64) < 0 then rn PP 213 62 [some (pR (some m)), some (pI (nI a0)), some (pI (nI (ss.length + 1))), none, none, none, none, none] [] (wI M (m + 43) ss.length (nI (p + 1))) else rd (some m) 12 (wI M (m + 43) ss.length (nI (p + 1))) fun a28 => ix 20 30 (gR (wI M (m + 43) ss.length (nI (p + 1))) 804 a28) (v.toInt32) (wI M (m + 43) ss.length (nI (p + 1))) fun a29 j30 => if ¬ aI (wI M (m + 43) ss.length (nI (p + 1))) a29 j30 = (-1) then rn PP 213 62 [some (pR (some m)), some (pI (nI a0)), some (pI (nI (ss.length + 1))), none, none, none, none, none] [] (wI M (m + 43) ss.length (nI (p + 1))) else rd (some m) 12 (wI M (m + 43) ss.length (nI (p + 1))) fun a31 => ix 20 20 (gR (wI M (m + 43) ss.length (nI (p + 1))) 825 a31) (nI (ss.length + 1)) (wI M (m + 43) ss.length (nI (p + 1))) fun a32 j33 => bd (wI (wI M (m + 43) ss.length (nI (p + 1))) a32 j33 (v.toInt32)) fun M34 => rd (some m) 12 M34 fun a35 => ix 20 20 (gR M34 826 a35) (nI (ss.length + 1)) M34 fun a36 j37 => bd (wI M34 a36 j37 0) fun M38 => rn PP 213 62 [some (pR (some m)), some (pI (nI a0)), some (pI (nI (ss.length + 1) + 1)), none, none, none, none, none] [] M38) = rr → rn PP 213 62 [some (pR (some m)), some (pI (nI a0)), some (pI (nI (ss.length + 1))), none, none, none, none, none] [] M = rr := fun {rr} hr' => by
      rw [tX12_keep_62]
      refine it_f npos (rd_i rfl mB.k (ix_m (n := ss.length) mB.a42 (by rw [nI_pred]) (by omega) (by omega) (rd_i rfl mB.k (ix_m (n := ss.length) mB.a43 (by rw [nI_pred]) (by omega) (by omega) (rd_i rfl mB.k ?_)))))
      rw [hst.1, h43]
      refine ix_m (n := k) mB.a25 rfl (by omega) (by omega) (rd_i rfl mB.k ?_)
      rw [w2]
      refine ix_m (n := q.1) mB.a5 rfl (by omega) (by omega) (it_t (fun z => ?_) (rd_i rfl mB.k (ix_m (n := ss.length) mB.a43 (by rw [nI_pred]) (by omega) (by omega) (ix_m (n := ss.length) mB.a43 (by rw [nI_pred]) (by omega) (by omega) ?_))))
      · rw [z2] at z
        have := nI_inj (by omega) (by omega) z
        omega
      · rw [h43, nI_1]
        refine bd_i (rd_i rfl mB1.k (ix_m (n := 6 * k + p) mB1.a26 (m6 k p) (by omega) (by omega) (rd_i rfl mB1.k (ix_m (n := 6 * q.1 + p) mB1.a7 (m6 q.1 p) (by omega) (by omega) ?_))))
        rw [s7.2.1, s26]
        exact hr'
    have e804 : ∀ (o' : Nat) (q' : TO), O[o']? = some q' → aI (wI M (m + 43) ss.length (nI (p + 1))) (m + 27) o' = lno O o' := fun o' q' h => by
      rw [(hM1.2.2.2.2.2.1.2.2 o' q' h).2.2.1]
      unfold lno
      rw [getD_at h]
    generalize hMa : wI M (m + 43) ss.length (nI (p + 1)) = Ma at hM1 mB1 s7 s26 st1 p1 pl e42 cu1 pre e804
    have next : NK R O q (p + 1) → (rn PP 213 62 [some (pR (some m)), some (pI (nI a0)), some (pI (nI (ss.length + 1))), none, none, none, none, none] [] M = rn PP 213 62 [some (pR (some m)), some (pI (nI a0)), some (pI (nI (ss.length + 1))), none, none, none, none, none] [] Ma) → (∀ c, fck O (chn R q) = some c → ∃ (M' : Mem) (p' : Nat) (t : TP) (v : Int64), rn PP 213 62 [some (pR (some m)), some (pI (nI a0)), some (pI (nI (ss.length + 1))), none, none, none, none, none] [] M = rn PP 213 62 [some (pR (some m)), some (pI (nI a0)), some (pI (nI (ss.length + 2))), none, none, none, none, none] [] M' ∧ CU m M M' ∧ MI m E R F W O T S M' ∧ stkI (aI M' (m + 42)) (c :: k :: ss) ∧ aI M' (m + 43) (ss.length + 1) = nI 0 ∧ aI M' (m + 43) ss.length = nI (p' + 1) ∧ (∀ j, j < ss.length → aI M' (m + 43) j = aI M (m + 43) j) ∧ NK R O q p' ∧ rc.1[p']? = some t ∧ q.2.1[p']? = some v ∧ t.2.1 = 11 ∧ v = lN c) ∧ (fck O (chn R q) = none → ∃ M' : Mem, rn PP 213 62 [some (pR (some m)), some (pI (nI a0)), some (pI (nI (ss.length + 1))), none, none, none, none, none] [] M = (clV (ex 214 6 [pR (some m), pI (nI k)] M') fun M39 => rn PP 213 62 [some (pR (some m)), some (pI (nI a0)), some (pI (nI ss.length)), none, none, none, none, none] [] M39) ∧ CU m M M' ∧ MI m E R F W O T S M' ∧ aI M' (m + 42) = aI M (m + 42) ∧ (∀ j, j < ss.length → aI M' (m + 43) j = aI M (m + 43) j)) := fun hn he => by
      obtain ⟨y1, y2⟩ := ih (p + 1) Ma (by omega) hM1 st1 p1 hn
      refine ⟨fun c hc => ?_, fun hc => ?_⟩
      · obtain ⟨M', p', t', v', x1, x2, x3, x4, x5, x6, x7, x8⟩ := y1 c hc
        exact ⟨M', p', t', v', he.trans x1, cu1.tr x2, x3, x4, x5, x6, fun j hj => (x7 j hj).trans (pl j hj), x8⟩
      · obtain ⟨M', x1, x2, x3, x4, x5⟩ := y2 hc
        exact ⟨M', he.trans x1, cu1.tr x2, x3, x4.trans e42, fun j hj => (x5 j hj).trans (pl j hj)⟩
    have nk1 : (t.2.1 = 11 → v ≠ -1 → lno O v.toInt32.toNatClampNeg ≠ -1) → NK R O q (p + 1) := fun h j t' v' hj y1 y2 y3 y4 => by
      by_cases c : j = p
      · subst c
        rw [getD_at hrc, ht] at y1
        rw [hv] at y2
        cases y1
        cases y2
        exact h y3 y4
      · exact hnk j t' v' (by omega) y1 y2 y3 y4
    by_cases h11 : t.2.1 = 11
    · rcases (hval p t v ht hv).2.2.2.2 h11 with hm | ⟨o', q', g', fq, u1, u2, u3, -⟩
      · exact next (nk1 (fun _ z => absurd hm z)) (pre (it_f (not_not_intro h11) (it_t (by rw [hm]; decide) rfl)))
      · have ne : v ≠ -1 := by rw [u3]; exact lN_ne (by omega)
        have nlt : ¬ lg_cmp v (0 : Int64) < 0 := by rw [u3]; exact fun z => lN_nn (by omega) (cmp_lt0.mp z)
        by_cases c : lno O o' = -1
        · have hf : fck O (chn R q) = some o' := by
            rw [NK_fck hrc hvl p (by omega) hnk, hdt, hdv, chl_c, if_pos ⟨h11, ne⟩, u3, lN_back (by omega), fck_c, if_pos c]
          refine ⟨fun d hd => ?_, fun hd => (by rw [hf] at hd; exact (nomatch hd))⟩
          rw [hf] at hd
          cases hd
          have hM2 : MI m E R F W O T S (wI (wI Ma (m + 42) (ss.length + 1) (nI o')) (m + 43) (ss.length + 1) 0) := (hM1.uz (UZ.rf.wI (by decide))).uz (UZ.rf.wI (by decide))
          refine ⟨_, p, t, v, pre (it_f (not_not_intro h11) (it_f nlt (rd_i rfl mB1.k (ix_m (n := o') mB1.a27 (by rw [u3, lN_i]) (by omega) (by omega) (it_f (not_not_intro ((e804 o' q' u2).trans c)) (rd_i rfl mB1.k (ix_m (n := ss.length + 1) mB1.a42 rfl (by omega) (by omega) (bd_i (rd_i rfl mB1.k (ix_m (n := ss.length + 1) mB1.wI.a43 rfl (by omega) (by omega) (bd_i ?_))))))))))), cu1.tr ((CU.rf.wI (by omega)).wI (by omega)), hM2, ?_, ?_, ?_, fun j hj => ?_, hnk, ht, hv, h11, u3⟩
          · rw [u3, lN_i, nI_1]
          · rw [aI_wI, up1_no (by omega), aI_wI, up1_at]
            exact ⟨by rw [List.length_cons, up1_at], stkI.up st1 (by rw [List.length_cons]; exact Nat.le_refl _)⟩
          · rw [aI_wI, up1_at, up1_at]; rfl
          · rw [aI_wI, up1_at, up1_no (by omega), aI_wI, up1_no (by omega)]; exact p1
          · rw [aI_wI, up1_at, up1_no (by omega), aI_wI, up1_no (by omega)]; exact pl j hj
        · exact next (nk1 (fun _ _ => by rw [u3, lN_back (by omega)]; exact c)) (pre (it_f (not_not_intro h11) (it_f nlt (rd_i rfl mB1.k (ix_m (n := o') mB1.a27 (by rw [u3, lN_i]) (by omega) (by omega) (it_t (fun z => c ((e804 o' q' u2).symm.trans z)) rfl))))))
    · exact next (nk1 (fun z _ => absurd z h11)) (pre (it_t h11 rfl))
theorem m_kp62 {A : Nat → Bool} {m o : Nat} {O' : List TO} {T' : List TL} (hE8 : ∀ (e : Nat) (q : TE), E[e]? = some q → q.1.length ≤ 8) : ∀ (j : Nat) (O : List TO) (T : List TL) (ss : List Nat) (M : Mem), kit E R W S j (O, T, ss) = (O', T', []) → KI R A o O T ss → MI m E R F W O T S M → AW E R F W O T S jW jO → stkI (aI M (m + 42)) ss → (∀ (k : Nat) (ss' : List Nat), ss = k :: ss' → (∃ p, aI M (m + 43) ss'.length = nI p ∧ p ≤ (R.getD (O.getD k o0).1 ([], [], 0)).1.length ∧ NK R O (O.getD k o0) p) ∧ plR R O (aI M (m + 43)) k ss') → ∃ M', rn PP 213 62 [some (pR (some m)), some (pI (nI o)), some (pI (nI ss.length)), none, none, none, none, none] [] M = some (some (pI (lno O' o)), M') ∧ CU m M M' ∧ MI m E R F W O' T' S M' := by
  have fin : ∀ (O : List TO) (T : List TL) (M : Mem), o < O.length → MI m E R F W O T S M → (O, T, ([] : List Nat)) = (O', T', []) → ∃ M', rn PP 213 62 [some (pR (some m)), some (pI (nI o)), some (pI (nI ([] : List Nat).length)), none, none, none, none, none] [] M = some (some (pI (lno O' o)), M') ∧ CU m M M' ∧ MI m E R F W O' T' S M' := fun O T M ho hM he => by
    injection he with e1 e2
    injection e2 with e2 e3
    subst e1
    subst e2
    obtain ⟨q, hq⟩ : ∃ q, O[o]? = some q := ⟨_, List.getElem?_eq_getElem ho⟩
    obtain ⟨mB, -, -, -, -, mO, -, -⟩ := id hM
    have ho164 := mO.2.1
    refine ⟨M, ?_, CU.rf, hM⟩
    rw [tX12_keep_62]
    refine it_t (by decide) (rd_i rfl mB.k (ix_m (n := o) mB.a27 rfl (by omega) (by omega) ?_))
    rw [(mO.2.2 o q hq).2.2.1]
    unfold lno
    rw [getD_at hq]
  intro j
  induction j with
  | zero =>
    intro O T ss M hk hki hM aw hst hpl
    rw [kit] at hk
    have : ss = [] := by
      injection hk with e1 e2
      injection e2
    subst this
    exact fin O T M hki.2.2.2.2 hM hk
  | succ j ih =>
    intro O T ss M hk hki hM aw hst hpl
    cases ss with
    | nil =>
      rw [kit_nil] at hk
      exact fin O T M hki.2.2.2.2 hM hk
    | cons k ss =>
      have ho164 := hM.2.2.2.2.2.1.2.1
      have hlen := hki.len
      have h64 := hki.2.2.2.1
      rw [List.length_cons] at hlen
      obtain ⟨k1, k2, k3⟩ := hki.2.1 k List.mem_cons_self
      have ho5 := hki.2.2.2.2
      obtain ⟨q, hq⟩ : ∃ q, O[k]? = some q := ⟨_, List.getElem?_eq_getElem (by omega)⟩
      have hkl : k < O.length := by omega
      obtain ⟨rc, hrc, hvl, -, hval⟩ := aw.2.2.2.1 k q hq
      obtain ⟨⟨p, h43, hp, hnk⟩, hplR⟩ := hpl k ss rfl
      rw [getD_at hq] at hp hnk
      rw [getD_at hrc] at hp
      obtain ⟨s1, s2⟩ := m_scan (a0 := o) (ss := ss) aw hq hrc hvl (by omega) (rc.1.length - p) p M (by omega) hM hst h43 hnk
      rw [List.length_cons]
      cases hf : fck O (chn R q) with
      | some c =>
        rw [kit, kst_push hq hf] at hk
        obtain ⟨M1, p', t, v, x1, x2, x3, x4, x5, x6, x7, x8, x9, x10, x11, x12⟩ := s1 c hf
        obtain ⟨M', e1, e2, e3⟩ := ih O T (c :: k :: ss) M1 hk (hki.push hq (chn_lt aw.2.2.2.1 ho164 hq) hf) x3 aw x4 (fun k' ss' hss => by
          injection hss with z1 z2
          subst z1
          subst z2
          refine ⟨⟨0, by rw [List.length_cons]; exact x5, Nat.zero_le _, fun j t v hj => by omega⟩, ⟨p', t, v, x6, ?_⟩, hplR.cg x7⟩
          rw [getD_at hq, getD_at hrc]
          exact ⟨x8, x9, x10, x11, x12⟩)
        rw [List.length_cons, List.length_cons] at e1
        exact ⟨M', x1.trans e1, x2.tr e2, e3⟩
      | none =>
        rw [kit, kst_write hq hf] at hk
        obtain ⟨M1, x1, x2, x3, x4, x5⟩ := s2 hf
        have hT : T.length < 64 := by omega
        have hnl : ¬ nI T.length = -1 := nI_m1 (by omega)
        obtain ⟨M2, e214, cu2, hM2, w42, w43⟩ := m_write x3 aw hq hrc hT
        obtain ⟨hk', -⟩ := hki.write (l := mkL E R W O S q) (q' := (q.1, q.2.1, nI T.length, q.2.2.2)) hq rfl rfl hnl
        have gt : ∀ i ∈ ss, i ≠ k := fun i hi => by
          have := (List.pairwise_cons.mp hki.1).1 i hi
          omega
        obtain ⟨M', e1, e2, e3⟩ := ih _ _ ss M2 hk hk' hM2 (aw_line aw ho164 hT hE8 hq hrc (fck_none hf)) (by rw [w42, x4]; exact hst.2) (fun k' ss' hss => by
          subst hss
          obtain ⟨⟨p2, t2, v2, y1, y2, y3, y4, y5, y6⟩, y7⟩ := hplR
          have f43 : ∀ j, j < ss'.length + 1 → aI M2 (m + 43) j = aI M (m + 43) j := fun j hj => by rw [w43]; exact x5 j (by rw [List.length_cons]; exact hj)
          rw [getD_set (gt k' List.mem_cons_self)]
          refine ⟨⟨p2 + 1, by rw [f43 _ (by omega)]; exact y1, (List.getElem?_eq_some_iff.mp y3).1, fun j t v hj z1 z2 z3 z4 => ?_⟩, (y7.set hkl hnl (fun i hi => gt i (List.mem_cons_of_mem _ hi))).cg (fun j hj => f43 j (by omega))⟩
          by_cases c : j = p2
          · subst c
            rw [y4] at z2
            cases z2
            refine lno_set hkl hnl (Or.inl ?_)
            rw [y6, lN_back (by omega)]
          · exact lno_set hkl hnl (Or.inr (y2 j t v (by omega) z1 z2 z3 z4)))
        exact ⟨M', x1.trans (clV_i e214 e1), (x2.tr cu2).tr e2, e3⟩
theorem lno_at {o : Nat} {q : TO} (h : O[o]? = some q) : lno O o = q.2.2.1 := by
  unfold lno
  rw [getD_at h]
theorem op_keep (h : Inv x E R F W O T S jW jO M) (e : Int32) : Op x W O T jW jO M (fun M => ex 100 3 [pR (some x), pI e] M) (fun M => ex 213 8 [pR (some (x + 12)), pI e] M) := by
  obtain ⟨hX, hM, aw⟩ := id h
  obtain ⟨⟨hB, hv, hL⟩, hE, hR, hF, hW, hO, hXL, hS⟩ := id hX
  obtain ⟨mB, mE, mR, mF, mW, mO, mL, mS⟩ := id hM
  have hOl := mO.2.1
  have hTl := mL.2.1
  have hE8 : ∀ (e : Nat) (q : TE), E[e]? = some q → q.1.length ≤ 8 := fun e q he => (mE.2.2.1 e q he).1
  have hR6 : ∀ (r : Nat) (q : TR), R[r]? = some q → q.1.length ≤ 6 := fun r q he => (mR.2.2.1 r q he).1.1
  rcases oob_or e O.length (by omega) with ho | ⟨o, ho, rfl⟩
  · refine Op.keep h (v := pI (-1)) ?_ ?_
    · show ex 100 3 [pR (some x), pI e] M = _
      rw [tX11_keep]
      exact rd_i rfl hB.k (clR_i (c_objAt_no hB hO (oobL (by omega) ho)) (it_t rfl rfl))
    · show ex 213 8 [pR (some (x + 12)), pI e] M = _
      rw [tX12_keep]
      exact rd_i rfl mB.k (clI_i (m_isObj_no mB mO ho) (it_f (not_not_intro rfl) rfl))
  obtain ⟨q, hq⟩ : ∃ q, O[o]? = some q := ⟨_, List.getElem?_eq_getElem ho⟩
  obtain ⟨a, g16, xa, ca, -⟩ := XO.at hO hq
  have c111 := c_objAt_ad hB hO hq g16
  rw [← nI_l (by omega)] at c111
  obtain ⟨as, ad, hla⟩ := hXL
  have hla : XLa x M as ad T := hla
  obtain ⟨M1, e137, gi⟩ := c_count hX aw hOl ho
  obtain ⟨hX1, f1⟩ := hX.f452 gi
  have hB1 := hX1.1.1
  have hch : ∀ k, k < O.length → ∀ c ∈ chn R (O.getD k o0), c < k := fun k hk => by
    have hqk : O[k]? = some O[k] := List.getElem?_eq_getElem hk
    rw [getD_at hqk]
    exact chn_lt aw.2.2.2.1 hOl hqk
  obtain ⟨wn1, wn2, wn3, wn4⟩ := wn_spec hch (o + 1) (fun i => decide (i = o)) 0 (by omega)
  rw [Nat.zero_add] at wn3
  generalize hwn : wnt R O (o + 1) (fun i => decide (i = o)) 0 = wn at e137 wn1 wn2 wn3 wn4
  have hAo : wn.2 o = true := wn2 o (decide_eq_true rfl)
  have hcle : ∀ k, ctU O wn.2 k ≤ k := by
    intro k
    induction k with
    | zero => exact Nat.le_refl _
    | succ k ih => rw [ctU]; split <;> omega
  have hN := hcle (o + 1)
  have ca1 := ca.fr f1 (by decide) id
  have runc : ∀ {rr : Option Rt}, (if (nI T.length + nI wn.1) ≤ 64 then rd (some a) 7 M1 fun a11 => if ¬ gI M1 451 a11 = (-1) then rd (some a) 7 M1 fun a12 => some (some (pI (gI M1 451 a12)), M1) else rd (some x) 11 M1 fun a14 => clV (ex 139 6 [pR (some a14), pI (nI o)] M1) fun M13 => rd (some a) 7 M13 fun a15 => some (some (pI (gI M13 451 a15)), M13) else some (some (pI (-3)), M1)) = rr → ex 100 3 [pR (some x), pI (nI o)] M = rr := fun {rr} hr' => by
    rw [tX11_keep]
    exact rd_i rfl hB.k (clR_i c111 (it_f (fun z => nomatch z) (rd_i rfl hB.k (rd_i hB.r10.1 hB.r10.2 (clI_i hla.size (rd_i rfl hB.k (clI_i e137 hr')))))))
  have runm : ∀ {M1 : Mem} {rr : Option Rt}, MI (x + 12) E R F W O T S M1 → (if lno O o = (-1) then rd (some (x + 12)) 12 M1 fun a8 => clI (ex 212 7 [pR (some a8), pI (nI o)] M1) fun r9 M7 => rd (some (x + 12)) 12 M7 fun a10 => if r9 ≤ (64 - gI M7 813 a10) then rd (some (x + 12)) 12 M7 fun a11 => ix 20 20 (gR M7 825 a11) 0 M7 fun a12 j13 => bd (wI M7 a12 j13 (nI o)) fun M14 => rd (some (x + 12)) 12 M14 fun a15 => ix 20 20 (gR M14 826 a15) 0 M14 fun a16 j17 => bd (wI M14 a16 j17 0) fun M18 => rn PP 213 62 [some (pR (some (x + 12))), some (pI (nI o)), some (pI 1), none, none, none, none, none] [] M18 else some (some (pI (-3)), M7) else some (some (pI (lno O o)), M1)) = rr → ex 213 8 [pR (some (x + 12)), pI (nI o)] M1 = rr := fun {M1 rr} hM1 hr' => by
    obtain ⟨mB1, -, -, -, -, mO1, -, -⟩ := id hM1
    have w3 : aI M1 (x + 12 + 27) o = lno O o := by rw [(mO1.2.2 o q hq).2.2.1, lno_at hq]
    rw [tX12_keep]
    refine rd_i rfl mB1.k (clI_i (m_isObj mB1 mO1 ho) (it_t (by decide) (rd_i rfl mB1.k (ix_m (n := o) mB1.a27 rfl (by omega) (by omega) ?_))))
    rw [w3]
    by_cases c : lno O o = -1
    · rw [if_pos c] at hr' ⊢
      exact hr'
    · rw [if_neg c] at hr' ⊢
      refine rd_i rfl mB1.k (ix_m (n := o) mB1.a27 rfl (by omega) (by omega) ?_)
      rw [w3]
      exact hr'
  have l451 : gI M1 451 a = lno O o := by rw [(ca1.2.2.2.2 q rfl).2.1, lno_at hq]
  have sum : nI T.length + nI wn.1 = nI (T.length + wn.1) := nI_add _ _
  have f452 : Fr x KX (AX x) (AX x) (AX x) 0 M M1 := f1.mo (Nat.le_refl _) (fun k q => by subst q; decide) (fun _ q => q.elim) (fun _ q => q.elim) (fun _ q => q.elim)
  by_cases kept : lno O o = -1
  · by_cases full : T.length + wn.1 ≤ 64
    · -- it is kept
      have f2 : Fr x No No (fun d => d = x + 11) No 0 M1 (wI M1 (x + 11) 0 (nI o)) := (Fr.rf hX1.1.2.1 hX1.1.2.2).bAI (Or.inl rfl)
      have hX2 : XI x E R F W O T S jW jO (wI M1 (x + 11) 0 (nI o)) := hX1.frS f2 (fun _ q => q.elim) (fun d q => by omega) (fun _ q => q.elim) (hX1.2.2.2.2.2.2.2.fr hB1 f2 (fun _ _ => id) ⟨by omega, by omega⟩ id)
      have ki : KI R wn.2 o O T [o] := by
        refine ⟨List.pairwise_singleton _ _, fun i hi => ?_, wn4, by omega, ho⟩
        rw [List.mem_singleton.mp hi]
        exact ⟨by omega, hAo, kept⟩
      have st : stkI (aI (wI M1 (x + 11) 0 (nI o)) (x + 11)) [o] := ⟨by rw [aI_wI, up1_at]; exact up1_at, trivial⟩
      obtain ⟨j, M3, O', T', nn, e1, e2, hX3, aw3, f3, hnn, sh⟩ := c_kp11 (x := x) (o := o) (A := wn.2) mE.2.1 hE8 hR6 128 0 O T [o] _ (by omega) hOl ki (by show 0 + 2 * ctU O wn.2 (o + 1) ≤ 127 + 1; omega) hX2 aw st
      have run139 : ex 139 6 [pR (some x), pI (nI o)] M1 = some (none, M3) := by
        rw [tX11_keepInOrder]
        refine rd_i rfl hB1.k (ix_i (n := 0) hB1.r11.1 (Or.inl hB1.r11.2.1) rfl (by rw [hB1.r11.2.2]; omega) (by omega) (bd_i e1))
      obtain ⟨q', hq', -⟩ := sh.2 o q hq
      have fall : Fr x (fun k => k = 451 ∨ k = 452) (fun l => l = x + 10) (fun d => d = x + 11) No (0 + 0 + nn) M M3 := ((f1.mo (Nat.le_refl _) (fun _ q => Or.inr q) (fun _ q => q.elim) (fun _ q => q.elim) (fun _ => id)).tr (f2.mo (Nat.le_refl _) (fun _ q => q.elim) (fun _ q => q.elim) (fun _ => id) (fun _ => id))).tr (f3.mo (Nat.le_refl _) (fun _ q => Or.inl q) (fun _ => id) (fun _ => id) (fun _ => id))
      have ca3 : cO M3 (some q') a := (isO.stay hO.1 hX3.2.2.2.2.2.1.1 (fall.ls (by omega)) (i := o) (q := some q) (q' := some q') (by rw [List.getElem?_append_left (by rw [List.length_map]; exact ho), List.getElem?_map, hq]; rfl) (by rw [List.getElem?_append_left (by rw [List.length_map, sh.1]; exact ho), List.getElem?_map, hq']; rfl) g16).2.2
      refine Op.chg (O' := O') (T' := T') (v := pI (lno O' o)) h (M1 := M3) (runc ?_) (fall.mo (n' := nn) (by omega) (fun k q => by rcases q with q | q <;> (subst q; decide)) (fun l q => by omega) (fun d q => by omega) (fun _ q => q.elim)) hX3 (fun hM1 => ?_) aw3 ?_
      · rw [sum]
        refine it_t (nI_le (b := 64) full (by omega)) (rd_i rfl ca1.1 (it_f (not_not_intro (l451.trans kept)) (rd_i rfl hB1.k (clV_i run139 (rd_i rfl ca3.1 ?_)))))
        rw [(ca3.2.2.2.2 q' rfl).2.1, lno_at hq']
      · obtain ⟨g, e212⟩ := m_unkept hM1 aw ho
        rw [hwn] at e212
        have hMu : MI (x + 12) E R F W O T S (uI M3 (x + 12 + 44) g) := hM1.uz (UZ.rf.uI (by decide))
        have cuu : CU (x + 12) M3 (uI M3 (x + 12 + 44) g) := CU.rf.bAI (by omega)
        generalize uI M3 (x + 12 + 44) g = Mu at e212 hMu cuu
        have mBu := hMu.1
        have hMv : MI (x + 12) E R F W O T S (wI (wI Mu (x + 12 + 42) 0 (nI o)) (x + 12 + 43) 0 0) := (hMu.uz (UZ.rf.wI (by decide))).uz (UZ.rf.wI (by decide))
        obtain ⟨M4, r1, r2, r3⟩ := m_kp62 (A := wn.2) hE8 j O T [o] (wI (wI Mu (x + 12 + 42) 0 (nI o)) (x + 12 + 43) 0 0) e2 ki hMv aw ⟨by rw [aI_wI, up1_no (by omega), aI_wI, up1_at]; exact up1_at, trivial⟩ (fun k' ss' hss => by
          injection hss with z1 z2
          subst z1
          subst z2
          exact ⟨⟨0, by rw [aI_wI, up1_at]; exact up1_at, Nat.zero_le _, fun j t v hj => by omega⟩, trivial⟩)
        refine ⟨M4, runm hM1 (it_t kept (rd_i rfl hM1.1.k (clI_i e212 (rd_i rfl mBu.k (it_t ?_ (rd_i rfl mBu.k (ix_m (n := 0) mBu.a42 rfl (by omega) (by omega) (bd_i (rd_i rfl mBu.k (ix_m (n := 0) mBu.wI.a43 rfl (by omega) (by omega) (bd_i r1))))))))))), cuu.tr (((CU.rf.wI (by omega)).wI (by omega)).tr r2), r3⟩
        rw [hMu.2.2.2.2.2.2.1.1, show (64 : Int32) = nI 64 from rfl, nI_sub hTl]
        exact nI_le (by omega) (by omega)
      · unfold pot
        rw [sh.1]
        omega
    · -- full
      refine Op.chg (n := 0) (v := pI (-3)) h (M1 := M1) (runc (it_f (by rw [sum]; exact nI_ge (a := 64) (by omega) (by omega)) rfl)) f452 hX1 (fun hM1 => ?_) aw (by omega)
      obtain ⟨g, e212⟩ := m_unkept hM1 aw ho
      rw [hwn] at e212
      have hMu : MI (x + 12) E R F W O T S (uI M1 (x + 12 + 44) g) := hM1.uz (UZ.rf.uI (by decide))
      have cuu : CU (x + 12) M1 (uI M1 (x + 12 + 44) g) := CU.rf.bAI (by omega)
      generalize uI M1 (x + 12 + 44) g = Mu at e212 hMu cuu
      refine ⟨Mu, runm hM1 (it_t kept (rd_i rfl hM1.1.k (clI_i e212 (rd_i rfl hMu.1.k (it_f ?_ rfl))))), cuu, hMu⟩
      rw [hMu.2.2.2.2.2.2.1.1, show (64 : Int32) = nI 64 from rfl, nI_sub hTl]
      exact nI_ge (by omega) (by omega)
  · -- it was kept before
    have c0 : wn.1 = 0 := by
      have hz : wnt R O (o + 1) (fun i => decide (i = o)) 0 = wnt R O o (fun i => decide (i = o)) 0 := by rw [wnt, if_neg (fun z => kept z.2)]
      have z0 : ∀ (k : Nat) (n : Nat), k ≤ o → wnt R O k (fun i => decide (i = o)) n = (n, fun i => decide (i = o)) := by
        intro k
        induction k with
        | zero => intro n _; rfl
        | succ k ih =>
          intro n hk
          rw [wnt, if_neg (fun z => by have := of_decide_eq_true z.1; omega)]
          exact ih n (by omega)
      rw [hz, z0 o 0 (Nat.le_refl _)] at hwn
      rw [← hwn]
    refine Op.chg (n := 0) (v := pI (lno O o)) h (M1 := M1) (runc (it_t (by rw [sum, c0]; exact nI_le (b := 64) (by omega) (by omega)) (rd_i rfl ca1.1 (it_t (fun z => kept (l451.symm.trans z)) (rd_i rfl ca1.1 (by rw [l451])))))) f452 hX1 (fun hM1 => ?_) aw (by omega)
    exact ⟨M1, runm hM1 (it_f kept rfl), CU.rf, hM1⟩
end OPS
