/-! CALLS on records: part, check -/
section OPR
variable {x : Nat} {E E' : List TE} {R R' : List TR} {F F' : List TF} {W W' : List TW} {O O' : List TO} {T T' : List TL} {S S' : TS} {jW jO jW' jO' n : Nat} {M M1 : Mem}
theorem op_part (h : Inv x E R F W O T S jW jO M) (e : Int32) (nm : Int64) (s o : Int32) (std : Int64) : Op x W O T jW jO M (fun M => ex 81 9 [pR (some x), pI e, pJ nm, pI s, pI o, pJ std] M) (fun M => ex 179 9 [pR (some (x + 12)), pI e, pJ nm, pI s, pI o, pJ std] M) := by
  obtain ⟨hX, hM, aw⟩ := id h
  obtain ⟨⟨hB, hv, hL⟩, hE, hR, hF, -, hO, -, -⟩ := id hX
  obtain ⟨mB, mE, mR, mF, -, mO, -, -⟩ := id hM
  have hRl := mR.2.1
  have hEl := mE.2.1
  have hFl := mF.2.1
  rcases oob_or e R.length (by omega) with ho | ⟨k, hk, rfl⟩
  · refine Op.keep h (v := pI (-1)) ?_ ?_
    · show ex 81 9 [pR (some x), pI e, pJ nm, pI s, pI o, pJ std] M = _
      rw [tX11_part]
      exact rd_i rfl hB.k (clR_i (c_recAt_no hB hR ho) (it_t rfl rfl))
    · show ex 179 9 [pR (some (x + 12)), pI e, pJ nm, pI s, pI o, pJ std] M = _
      rw [tX12_part]
      exact rd_i rfl mB.k (clI_i (m_isRec_no mB mR ho) (it_t rfl rfl))
  have hq : R[k]? = some R[k] := List.getElem?_eq_getElem hk
  generalize R[k] = q at hq
  obtain ⟨a, c108, hxa, hc, hcl, -⟩ := c_recAt hB hR hq
  obtain ⟨⟨z1, z2, z3⟩, -⟩ := mR.2.2.1 k q hq
  by_cases hnm : nmOK nm = 0
  · refine Op.keep h (v := pI (-1)) ?_ ?_
    · show ex 81 9 [pR (some x), pI (nI k), pJ nm, pI s, pI o, pJ std] M = _
      rw [tX11_part]
      exact rd_i rfl hB.k (clR_i c108 (it_f (fun q => nomatch q) (clI_i (c_name nm M) (it_t hnm rfl))))
    · show ex 179 9 [pR (some (x + 12)), pI (nI k), pJ nm, pI s, pI o, pJ std] M = _
      rw [tX12_part]
      exact rd_i rfl mB.k (clI_i (m_isRec mB mR hk) (it_f (by decide) (clI_i (m_name nm M) (it_t hnm rfl))))
  have hp := c_hasPart hc nm
  by_cases hfn : fndP q.1 nm 0 = -1
  · rw [if_pos hfn] at hp
    by_cases hs : isSrt E.length F.length s o
    · by_cases ho : O = []
      · have c0 := (ob0 hO).mpr ho
        by_cases h6 : q.1.length = 6
        · have d0 := (mb0 mO).mpr ho
          refine Op.keep h (v := pI (-3)) ?_ ?_
          · show ex 81 9 [pR (some x), pI (nI k), pJ nm, pI s, pI o, pJ std] M = _
            rw [tX11_part]
            exact rd_i rfl hB.k (clR_i c108 (it_f (fun q => nomatch q) (clI_i (c_name nm M) (it_f hnm (rd_i rfl hc.1 (clI_i hp (it_f (not_not_intro rfl) (rd_i rfl hB.k (clI_i ((c_isSort hB hE hF).1 hs) (it_t (by decide) (rd_i rfl hB.k (it_t c0 (rd_i rfl hc.1 (rd_i hc.2.1 hc.2.2.2.2.1.k (clI_i hc.2.2.2.2.1.size (it_f (by rw [h6]; decide) rfl))))))))))))))))
          · show ex 179 9 [pR (some (x + 12)), pI (nI k), pJ nm, pI s, pI o, pJ std] M = _
            rw [tX12_part]
            refine rd_i rfl mB.k (clI_i (m_isRec mB mR hk) (it_f (by decide) (clI_i (m_name nm M) (it_f hnm (rd_i rfl mB.k (clI_i (m_partNamed mB mR hq nm) (it_f (not_not_intro hfn) (rd_i rfl mB.k (clI_i ((m_isSort mB mE mF).1 hs) (it_t (by decide) (rd_i rfl mB.k (it_t d0 (rd_i rfl mB.k (ix_m mB.a5 rfl (by omega) (by omega) ?_))))))))))))))
            exact it_f (not_not_intro (by rw [z2, h6]; rfl)) rfl
        · obtain ⟨Mc, M1, e63, kc, e19, cn, hR1, f3⟩ := c_newPart (nm := nm) (std := std) (s := s) (o := o) hB hv hL hc hxa (by omega) hcl
          have hX1 := hX.frR f3 (fun _ q => q.elim) (fun l q => Or.inr ⟨by omega, Or.inl (by rw [q, Nat.add_sub_cancel]; exact hc.1)⟩) hR1
          refine Op.chg (R' := R.set k (q.1 ++ [(nm, s, nrm s o, stdV s std)], q.2)) (v := pI (nI q.1.length)) h (M1 := M1) ?_ (f3.mo (n' := 25) (Nat.le_refl _) (fun _ q => q.elim) (fun l q => by omega) (fun _ q => q.elim) (fun _ q => q.elim)) hX1 (fun hM1 => ?_) ?_ (by omega)
          · show ex 81 9 [pR (some x), pI (nI k), pJ nm, pI s, pI o, pJ std] M = _
            rw [tX11_part]
            refine rd_i rfl hB.k (clR_i c108 (it_f (fun q => nomatch q) (clI_i (c_name nm M) (it_f hnm (rd_i rfl hc.1 (clI_i hp (it_f (not_not_intro rfl) (rd_i rfl hB.k (clI_i ((c_isSort hB hE hF).1 hs) (it_t (by decide) (rd_i rfl hB.k (it_t c0 (rd_i rfl hc.1 (rd_i hc.2.1 hc.2.2.2.2.1.k (clI_i hc.2.2.2.2.1.size (it_t (nI6 (by omega)) (rd_i rfl hc.1 (bd_i (rd_i rfl (if_pos rfl) (clV_i e63 (rd_i hc.2.1 kc (clI_i e19 (rd_i rfl cn.1 (rd_i cn.2.1 cn.2.2.2.2.1.k (clI_i cn.2.2.2.2.1.size ?_)))))))))))))))))))))))))
            rw [List.length_append, show ([(nm, s, nrm s o, stdV s std)] : List TP).length = 1 from rfl, nI_pred]
          · subst ho
            exact m_newPart hM1 hq (by omega) hnm hfn hs
          · subst ho
            refine awR aw (wfR_set aw.1 ⟨fun p t ht => ?_, fun c t ht => ?_⟩) (by rw [List.length_set]; omega) (cntR_set hq rfl)
            · by_cases e2 : p < q.1.length
              · rw [List.getElem?_append_left e2] at ht
                exact (aw.1 k q hq).1 p t ht
              · rw [List.getElem?_append_right (by omega)] at ht
                have : p - q.1.length < 1 := (List.getElem?_eq_some_iff.mp ht).1
                rw [show p - q.1.length = 0 by omega] at ht
                cases ht
                exact ⟨srtOK_of (by omega) (by omega) hs, stdOK_V s std⟩
            · obtain ⟨t', w1, w2⟩ := (aw.1 k q hq).2 c t ht
              have hcl : t.1 < q.1.length := (List.getElem?_eq_some_iff.mp w1).1
              exact ⟨t', by rw [List.getElem?_append_left hcl]; exact w1, w2⟩
      · refine Op.keep h (v := pI (-2)) ?_ ?_
        · show ex 81 9 [pR (some x), pI (nI k), pJ nm, pI s, pI o, pJ std] M = _
          rw [tX11_part]
          exact rd_i rfl hB.k (clR_i c108 (it_f (fun q => nomatch q) (clI_i (c_name nm M) (it_f hnm (rd_i rfl hc.1 (clI_i hp (it_f (not_not_intro rfl) (rd_i rfl hB.k (clI_i ((c_isSort hB hE hF).1 hs) (it_t (by decide) (rd_i rfl hB.k (it_f (fun q => ho ((ob0 hO).mp q)) rfl))))))))))))
        · show ex 179 9 [pR (some (x + 12)), pI (nI k), pJ nm, pI s, pI o, pJ std] M = _
          rw [tX12_part]
          exact rd_i rfl mB.k (clI_i (m_isRec mB mR hk) (it_f (by decide) (clI_i (m_name nm M) (it_f hnm (rd_i rfl mB.k (clI_i (m_partNamed mB mR hq nm) (it_f (not_not_intro hfn) (rd_i rfl mB.k (clI_i ((m_isSort mB mE mF).1 hs) (it_t (by decide) (rd_i rfl mB.k (it_f (fun q => ho ((mb0 mO).mp q)) rfl))))))))))))
    · refine Op.keep h (v := pI (-1)) ?_ ?_
      · show ex 81 9 [pR (some x), pI (nI k), pJ nm, pI s, pI o, pJ std] M = _
        rw [tX11_part]
        exact rd_i rfl hB.k (clR_i c108 (it_f (fun q => nomatch q) (clI_i (c_name nm M) (it_f hnm (rd_i rfl hc.1 (clI_i hp (it_f (not_not_intro rfl) (rd_i rfl hB.k (clI_i ((c_isSort hB hE hF).2 hs) (it_f (not_not_intro rfl) rfl))))))))))
      · show ex 179 9 [pR (some (x + 12)), pI (nI k), pJ nm, pI s, pI o, pJ std] M = _
        rw [tX12_part]
        exact rd_i rfl mB.k (clI_i (m_isRec mB mR hk) (it_f (by decide) (clI_i (m_name nm M) (it_f hnm (rd_i rfl mB.k (clI_i (m_partNamed mB mR hq nm) (it_f (not_not_intro hfn) (rd_i rfl mB.k (clI_i ((m_isSort mB mE mF).2 hs) (it_f (not_not_intro rfl) rfl))))))))))
  · rw [if_neg hfn] at hp
    refine Op.keep h (v := pI (-1)) ?_ ?_
    · show ex 81 9 [pR (some x), pI (nI k), pJ nm, pI s, pI o, pJ std] M = _
      rw [tX11_part]
      exact rd_i rfl hB.k (clR_i c108 (it_f (fun q => nomatch q) (clI_i (c_name nm M) (it_f hnm (rd_i rfl hc.1 (clI_i hp (it_t (by decide) rfl)))))))
    · show ex 179 9 [pR (some (x + 12)), pI (nI k), pJ nm, pI s, pI o, pJ std] M = _
      rw [tX12_part]
      exact rd_i rfl mB.k (clI_i (m_isRec mB mR hk) (it_f (by decide) (clI_i (m_name nm M) (it_f hnm (rd_i rfl mB.k (clI_i (m_partNamed mB mR hq nm) (it_t hfn rfl)))))))
-- check
/-- new Check -/
theorem check_init {Ma : Mem} {a p : Nat} {K L AI AJ : Nat → Prop} {kd0 : Int32} {va vb : Int64} (f : Fr x K L AI AJ n M Ma) (haM : mT M ≤ a) (hk : kd Ma a = 1) : ∃ Mc, ex 41 7 [pR (some a), pI (nI p), pI kd0, pJ va, pJ vb] Ma = some (none, Mc) ∧ Fr x K L AI AJ n M Mc ∧ cK Mc (p, kd0, va, vb) a ∧ kd Mc = kd Ma ∧ gR Mc = gR Ma ∧ aR Mc = aR Ma := by
  have k1 : kd (sI Ma 64 a (nI p)) a = 1 := hk
  have k2 : kd (sI (sI Ma 64 a (nI p)) 65 a kd0) a = 1 := by rw [kd_sI]; exact k1
  have k3 : kd (sJ (sI (sI Ma 64 a (nI p)) 65 a kd0) 66 a va) a = 1 := by rw [kd_sJ]; exact k2
  refine ⟨sJ (sJ (sI (sI Ma 64 a (nI p)) 65 a kd0) 66 a va) 67 a vb, ?_, (((f.bI (Or.inr haM)).bI (Or.inr haM)).bJ (Or.inr haM)).bJ (Or.inr haM), ⟨?_, ?_, ?_, ?_, ?_⟩, by rw [kd_sJ, kd_sJ, kd_sI, kd_sI], by rw [gR_sJ, gR_sJ, gR_sI, gR_sI], by rw [aR_sJ, aR_sJ, aR_sI, aR_sI]⟩
  · rw [tX1_init]
    exact nn_i rfl (rd_i rfl hk (bd_i (rd_i rfl k1 (bd_i (rd_i rfl k2 (bd_i (rd_i rfl k3 (bd_i rfl))))))))
  · rw [kd_sJ]; exact k3
  · simp only [gI_sJ, gI_sI]; rw [up2_ne (by decide), up2_at]
  · simp only [gI_sJ, gI_sI]; rw [up2_at]
  · simp only [gJ_sJ, gJ_sI]; rw [up2_ne (by decide), up2_at]
  · simp only [gJ_sJ, gJ_sI]; rw [up2_at]
theorem NoL_fresh {base n0 : Nat} (hv : PIv base M) : NoL (nO M 1 n0) (mT M) := by
  intro l d j hl hg h23 hr
  have hne : l ≠ mT M := fun q => by rw [kd_nO, q, up1_at] at hl; omega
  have hnd : d ≠ mT M := fun q => by rw [kd_nO, q, up1_at] at h23; omega
  rw [kd_nO, up1_no hnd] at h23
  rw [aR_nO] at hr
  have := hv.2.2 d h23 j _ hr
  have := lt_of_kd hv rfl (by omega : kd M (mT M) ≤ 24)
  omega
theorem c_newCheck {k a p : Nat} {q : TR} {kd0 : Int32} {va vb : Int64} (hB : XB x M) (hv : PIv x M) (hL : LI M) (hc : cR x M q a) (hx : x + 57 < a) (hn : q.2.1.length ≤ 1000) (hcl : ∀ (M' : Mem) (q' : TR), (∀ as, isL M (x + 2) as → isL M' (x + 2) as) → cR x M' q' a → (∀ q b, b ≠ a → x + 57 < b → cR x M q b → cR x M' q b) → XR x M' (R.set k q')) :
    ∃ Mc M1, ex 41 7 [pR (some (mT M)), pI (nI p), pI kd0, pJ va, pJ vb] (nO M 1 4) = some (none, Mc) ∧ kd Mc (a + 2) = 0 ∧ ex 19 2 [pR (some (a + 2)), pR (some (mT M))] Mc = some (some (pI 1), M1) ∧ cR x M1 (q.1, q.2.1 ++ [(p, kd0, va, vb)], q.2.2) a ∧ XR x M1 (R.set k (q.1, q.2.1 ++ [(p, kd0, va, vb)], q.2.2)) ∧ Fr x No (fun l => l = a + 2) No No 25 M M1 := by
  have hT := hB.lt
  have f0 : Fr x No No No No (0 + 1) M (nO M 1 4) := (Fr.rf hv hL).bO (by omega) (by omega)
  obtain ⟨Mc, e41, f1, cn, w1, w2, w3⟩ := check_init (p := p) (kd0 := kd0) (va := va) (vb := vb) f0 (Nat.le_refl _) (by rw [kd_nO, up1_at])
  have hB1 : XB x Mc := hB.fr f1 (fun _ _ => id) (fun _ _ => id)
  have hca := hc.fr f1 (fun _ _ => id) ⟨id, id⟩
  have lC : isO Mc x (a + 2) (fun r c => cK Mc r c ∧ c ≠ mT M) q.2.1 := isO.mono hc.2.2.2.2.2 (f1.ls id) (fun r c _ h => ⟨h.fr f1 (fun _ _ => id), fun e => by have := lt_of_kd hv h.1 (by omega); omega⟩)
  have hN : NoL Mc (mT M) := by
    unfold NoL
    rw [w1, w2, w3]
    exact NoL_fresh hv
  obtain ⟨M1, e19, lm, v1, lC1⟩ := isO.add (q := ((p, kd0, va, vb) : TK)) (c := 1) lC f1.v (fun d hd => (hB1.de d hd).1) f1.li (by omega) cn.1 (by omega) (by omega) cn (fun _ => hN)
  have f2 : Fr x No (fun l => l = a + 2) No No (0 + 24) Mc M1 := (Fr.rf (K := No) (L := fun l => l = a + 2) (AI := No) (AJ := No) f1.v f1.li).bL lm v1 (Or.inl rfl)
  have f3 : Fr x No (fun l => l = a + 2) No No 25 M M1 := ((f1.mo (L' := fun l => l = a + 2) (Nat.le_refl _) (fun _ => id) (fun _ q => q.elim) (fun _ => id) (fun _ => id)).tr f2).mo (by omega) (fun _ => id) (fun _ => id) (fun _ => id) (fun _ => id)
  have hk2 : isO M1 x (a + 1) (cP M1) q.1 := hc.2.2.2.2.1.mono (f3.ls (fun q => by omega)) (fun r c _ h => h.fr f3 (fun _ _ => id))
  obtain ⟨g1, g2⟩ := c_rset (q' := (q.1, q.2.1 ++ [(p, kd0, va, vb)], q.2.2)) hv hc hx (f3.mo (L' := fun l => l = a + 1 ∨ l = a + 2) (Nat.le_refl _) (fun _ => id) (fun _ => Or.inr) (fun _ => id) (fun _ => id)) (fun _ _ => id) rfl hk2 (lC1 _ (fun r c _ h => h.fr f2 (fun _ _ => id))) hcl
  exact ⟨Mc, M1, e41, hca.2.2.2.2.2.k, e19, g1, g2, f3⟩
end OPR
/-- which checks are for which sorts: the class's table, the model's cases -/
def chkD (k s : Int32) : Bool := (decide (k = 0) && decide (s < 8)) || ((decide (k = 1) && (decide (s = 8) || decide (s = 10) || decide (s = 11))) || ((decide (k = 2) && (decide (1 ≤ s) && decide (s ≤ 5))) || ((decide (k = 3) && (decide (1 ≤ s) && decide (s ≤ 4))) || ((decide (k = 4) && decide (s = 10)) || ((decide (k = 5) && decide (s = 11)) || (decide (k = 6) && decide (s = 8)))))))
theorem chkD_iff (k s : Int32) : chkD k s = true ↔ chkOK k s := by
  unfold chkD chkOK
  simp only [Bool.or_eq_true, Bool.and_eq_true, decide_eq_true_eq, or_assoc]
theorem chk_c : ∀ k : Nat, k < 7 → ∀ s : Nat, s < 12 → decide ((csv k >>> (nI s &&& 31)) &&& 1 = 0) = !chkD (nI k) (nI s) := by decide +kernel
theorem m_isCheck (k s : Int32) (M : Mem) : ex 184 2 [pI k, pI s] M = some (some (pI (b32 (chkD k s))), M) := by
  rw [tX12_isCheck]
  show (if k = 0 then _ else if k = 1 then _ else if k = 2 then _ else if k = 3 then _ else if k = 4 then _ else if k = 5 then _ else _) = _
  by_cases h0 : k = 0
  · rw [if_pos h0]
    by_cases h8 : s < 8
    · have e : chkD k s = true := by rw [chkD_iff]; exact Or.inl ⟨h0, h8⟩
      rw [e]
      exact it_f (fun z => ge8.mp z h8) (zo_i (Or.inr rfl) rfl)
    · have e : chkD k s = false := by subst h0; simp [chkD, h8]
      rw [e]
      exact it_t (ge8.mpr h8) (zo_i (Or.inl rfl) rfl)
  rw [if_neg h0]
  by_cases h1 : k = 1
  · rw [if_pos h1]
    subst h1
    by_cases a8 : s = 8
    · have e : chkD 1 s = true := by subst a8; decide
      rw [e]; exact it_t a8 (zo_i (Or.inr rfl) rfl)
    by_cases a10 : s = 10
    · have e : chkD 1 s = true := by subst a10; decide
      rw [e]; exact it_f a8 (it_t a10 (zo_i (Or.inr rfl) rfl))
    by_cases a11 : s = 11
    · have e : chkD 1 s = true := by subst a11; decide
      rw [e]; exact it_f a8 (it_f a10 (it_f (not_not_intro a11) (zo_i (Or.inr rfl) rfl)))
    have e : chkD 1 s = false := by simp [chkD, a8, a10, a11]
    rw [e]; exact it_f a8 (it_f a10 (it_t a11 (zo_i (Or.inl rfl) rfl)))
  rw [if_neg h1]
  have i1 : (1 : Int32).toInt = 1 := rfl
  have i4 : (4 : Int32).toInt = 4 := rfl
  have i5 : (5 : Int32).toInt = 5 := rfl
  have j1 : (1 : Int64).toInt = 1 := rfl
  have j4 : (4 : Int64).toInt = 4 := rfl
  have j5 : (5 : Int64).toInt = 5 := rfl
  by_cases h2 : k = 2
  · rw [if_pos h2]
    subst h2
    refine clI_i (m_in _ _ _ M) ?_
    have e : inB s.toInt64 1 5 = b32 (chkD 2 s) := by
      rw [inB_rng]
      by_cases c : (1 : Int32) ≤ s ∧ s ≤ 5
      · have e1 : chkD 2 s = true := by rw [chkD_iff]; exact Or.inr (Or.inr (Or.inl ⟨rfl, c⟩))
        rw [e1, if_pos (by rw [I32_le, I32_le] at c; omega)]; rfl
      · have e1 : chkD 2 s = false := by
          cases hh : chkD 2 s with
          | false => rfl
          | true =>
            exfalso
            rcases (chkD_iff 2 s).mp hh with ⟨z, -⟩ | ⟨z, -⟩ | ⟨-, z⟩ | ⟨z, -⟩ | ⟨z, -⟩ | ⟨z, -⟩ | ⟨z, -⟩
            · exact absurd z (by decide)
            · exact absurd z (by decide)
            · exact c z
            · exact absurd z (by decide)
            · exact absurd z (by decide)
            · exact absurd z (by decide)
            · exact absurd z (by decide)
        rw [e1, if_neg (fun q => c (by rw [I32_le, I32_le]; omega))]; rfl
    rw [e]
    exact zo_i (b32_01 _) rfl
  rw [if_neg h2]
  by_cases h3 : k = 3
  · rw [if_pos h3]
    subst h3
    refine clI_i (m_in _ _ _ M) ?_
    have e : inB s.toInt64 1 4 = b32 (chkD 3 s) := by
      rw [inB_rng]
      by_cases c : (1 : Int32) ≤ s ∧ s ≤ 4
      · have e1 : chkD 3 s = true := by rw [chkD_iff]; exact Or.inr (Or.inr (Or.inr (Or.inl ⟨rfl, c⟩)))
        rw [e1, if_pos (by rw [I32_le, I32_le] at c; omega)]; rfl
      · have e1 : chkD 3 s = false := by
          cases hh : chkD 3 s with
          | false => rfl
          | true =>
            exfalso
            rcases (chkD_iff 3 s).mp hh with ⟨z, -⟩ | ⟨z, -⟩ | ⟨z, -⟩ | ⟨-, z⟩ | ⟨z, -⟩ | ⟨z, -⟩ | ⟨z, -⟩
            · exact absurd z (by decide)
            · exact absurd z (by decide)
            · exact absurd z (by decide)
            · exact c z
            · exact absurd z (by decide)
            · exact absurd z (by decide)
            · exact absurd z (by decide)
        rw [e1, if_neg (fun q => c (by rw [I32_le, I32_le]; omega))]; rfl
    rw [e]
    exact zo_i (b32_01 _) rfl
  rw [if_neg h3]
  by_cases h4 : k = 4
  · rw [if_pos h4]
    subst h4
    by_cases a : s = 10
    · have e : chkD 4 s = true := by subst a; decide
      rw [e]; exact it_f (not_not_intro a) (zo_i (Or.inr rfl) rfl)
    · have e : chkD 4 s = false := by simp [chkD, a]
      rw [e]; exact it_t a (zo_i (Or.inl rfl) rfl)
  rw [if_neg h4]
  by_cases h5 : k = 5
  · rw [if_pos h5]
    subst h5
    by_cases a : s = 11
    · have e : chkD 5 s = true := by subst a; decide
      rw [e]; exact it_f (not_not_intro a) (zo_i (Or.inr rfl) rfl)
    · have e : chkD 5 s = false := by simp [chkD, a]
      rw [e]; exact it_t a (zo_i (Or.inl rfl) rfl)
  rw [if_neg h5]
  by_cases h6 : k = 6
  · subst h6
    by_cases a : s = 8
    · have e : chkD 6 s = true := by subst a; decide
      rw [e]; exact it_f (not_not_intro rfl) (it_f (not_not_intro a) (zo_i (Or.inr rfl) rfl))
    · have e : chkD 6 s = false := by simp [chkD, a]
      rw [e]; exact it_f (not_not_intro rfl) (it_t a (zo_i (Or.inl rfl) rfl))
  have e : chkD k s = false := by simp [chkD, h0, h1, h2, h3, h4, h5, h6]
  rw [e]; exact it_t h6 (zo_i (Or.inl rfl) rfl)
