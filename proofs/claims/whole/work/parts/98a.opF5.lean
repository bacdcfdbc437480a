section OPF
variable {x : Nat} {E E' : List TE} {R R' : List TR} {F F' : List TF} {W W' : List TW} {O O' : List TO} {T T' : List TL} {S S' : TS} {jW jO jW' jO' n : Nat} {M M' M1 : Mem}
/-- members alone count in the model -/
theorem MF_mb {m : Nat} {G : List TF} (h : MF m M F) (hl : G.length = F.length) (hm : ∀ (i : Nat) (r : TF), G[i]? = some r → r.1 = (F.getD i ([], [])).1) : MF m M G := by
  obtain ⟨h1, h2, h3, h4⟩ := h
  refine ⟨by rw [hl]; exact h1, by omega, fun f q hq => ?_, fun f hf1 hf2 => h4 f (by omega) hf2⟩
  have hf : f < F.length := by have := (List.getElem?_eq_some_iff.mp hq).1; omega
  have e : F[f]? = some F[f] := List.getElem?_eq_getElem hf
  have e2 := hm f q hq
  rw [List.getD_eq_getElem?_getD, e] at e2
  have e3 : q.1 = F[f].1 := e2
  rw [e3]
  exact h3 f _ e
/-- the call with its member's number, ahead of the class's tail and the model's loop -/
theorem op_permit_c {k a : Nat} {as : List Nat} {q : TF} {c : Int32} {cl md : Mem → Option Rt} (h : Inv x E R F W O T S jW jO M) (hX0 : XFa x M as F) (ha : as[k]? = some a) (hq : F[k]? = some q) (hc : (∃ r, r < R.length ∧ c = nI r) ∨ ∃ g, g < k ∧ c = nI (10 + g))
    (hcl : cl M = pT (some x) (some a) c M) (hmd : ∀ M1, MI (x + 12) E R F W O T S M1 → md M1 = rn PP 171 55 [some (pR (some (x + 12))), some (pI (nI k)), none, none, some (pI c), some (pI 0)] [] M1) : Op x W O T jW jO M cl md := by
  obtain ⟨hX, hM, aw⟩ := id h
  obtain ⟨⟨hB, hv, hL⟩, -, -, hF, -, hO, -, -⟩ := id hX
  obtain ⟨mB, -, mR, mF, -, mO, -, -⟩ := id hM
  have hFl := mF.2.1
  have hRl := mR.2.1
  have hk : k < F.length := (List.getElem?_eq_some_iff.mp hq).1
  obtain ⟨hxa, hcf⟩ := hX0.2.2.2 k a q ha hq
  obtain ⟨z1, z2, z3⟩ := mF.2.2.1 k q hq
  have hm := c_hasMember hcf c
  have s0 := m_permit_in (c := c) mB mF hq q.1.length 0 (by omega)
  rw [List.drop_zero] at s0
  have s1 := (hmd M hM).trans s0
  have mb : ∀ (i : Nat) (d : Int32), i < 3 → ((∃ r, r < R.length ∧ d = nI r) ∨ ∃ g, g < i ∧ d = nI (10 + g)) → mbOK i d := fun i d hi hd => by
    rcases hd with ⟨r, y1, y2⟩ | ⟨g, y1, y2⟩
    · exact Or.inl ⟨r, by omega, y2⟩
    · exact Or.inr ⟨g, y1, by omega, y2⟩
  by_cases hn : c ∈ q.1
  · rw [if_pos hn] at s1
    rw [if_neg (fun z => (fndI_mem q.1 0 (by omega)).mp z hn)] at hm
    refine Op.keep h (v := pI (-1)) ?_ s1
    rw [hcl]
    unfold pT
    exact rd_i rfl hcf.1 (clI_i hm (it_f (by decide) rfl))
  rw [if_neg hn, tX12_permit_55] at s1
  rw [if_pos ((fndI_mem q.1 0 (by omega)).mpr hn)] at hm
  by_cases ho : O = []
  · have c0 := (ob0 hO).mpr ho
    have d0 := (mb0 mO).mpr ho
    by_cases hf : q.1.length = 4
    · refine Op.keep h (v := pI (-3)) ?_ ?_
      · rw [hcl]
        unfold pT
        exact rd_i rfl hcf.1 (clI_i hm (it_t rfl (rd_i rfl hB.k (it_t c0 (rd_i rfl hcf.1 (it_f (by rw [hcf.2.1.2.1, hf]; decide) rfl))))))
      · refine s1.trans ?_
        refine rd_i rfl mB.k (ix_m mB.a15 rfl (by omega) (by omega) (it_t (by rw [z2]; exact nI_le (by omega) (by omega)) (rd_i rfl mB.k (it_t d0 (rd_i rfl mB.k (ix_m mB.a15 rfl (by omega) (by omega) (it_f (not_not_intro (by rw [z2, hf]; rfl)) rfl)))))))
    · obtain ⟨M1, G, e1, X1, l1, p1, f1⟩ := c_permit hB hv hL hX0 ha hq hFl (by omega) (fun i r hr d hd => by
        obtain ⟨j, hj⟩ := List.getElem?_of_mem hd
        exact mb i d (by have := (List.getElem?_eq_some_iff.mp hr).1; omega) ((aw.2.1 i r hr).1 j d hj)) (mb k c (by omega) hc) hn c0
      have hX1 := hX.frF f1 (fun k q => by omega) (fun l q => q.elim) (fun d q => q) X1
      subst ho
      have hlg : G.length = (F.set k (q.1 ++ [c], q.2)).length := by rw [List.length_set]; exact l1
      refine Op.chg (F' := G) (v := pI (nI (q.1.length + 1))) h (M1 := M1) (by rw [hcl]; exact e1) (f1.mo (n' := 0) (Nat.le_refl _) (fun k q => by rcases q with q | q <;> (subst q; decide)) (fun l q => q.elim) (fun d q => ⟨by omega, Or.inr q⟩) (fun _ q => q.elim)) hX1 (fun hM1 => ?_) (awF aw ?_ (by omega)) (by omega)
      · obtain ⟨M2, r1, r2, r3⟩ := m_permit hM1 hq (by omega) hn
        refine ⟨M2, (hmd M1 hM1).trans r1, r2, r3.uf UF.rf (MF_mb r3.2.2.2.1 hlg (fun i r hr => (p1 i r hr).1))⟩
      · intro f r hr
        obtain ⟨w1, w2⟩ := p1 f r hr
        have hfl : f < G.length := (List.getElem?_eq_some_iff.mp hr).1
        have hmem : ∀ i, i < G.length → (G.getD i ([], [])).1 = ((F.set k (q.1 ++ [c], q.2)).getD i ([], [])).1 := fun i hi => by
          have e : G[i]? = some G[i] := List.getElem?_eq_getElem hi
          rw [List.getD_eq_getElem?_getD, e]
          exact (p1 i _ e).1
        refine ⟨fun j d hd => ?_, ?_⟩
        · rw [w1] at hd
          have e : (F.set k (q.1 ++ [c], q.2))[f]? = some (F.set k (q.1 ++ [c], q.2))[f] := List.getElem?_eq_getElem (by omega)
          rw [List.getD_eq_getElem?_getD, e] at hd
          generalize (F.set k (q.1 ++ [c], q.2))[f]'(by omega) = r' at e hd
          have hd : r'.1[j]? = some d := hd
          rw [List.getElem?_set] at e
          by_cases e1 : k = f
          · subst e1
            rw [if_pos rfl, if_pos hk] at e
            cases e
            by_cases e2 : j < q.1.length
            · exact (aw.2.1 k q hq).1 j d (by rw [← hd]; exact (List.getElem?_append_left e2).symm)
            · have hd2 : (q.1 ++ [c])[j]? = some d := hd
              rw [List.getElem?_append_right (by omega)] at hd2
              have : j - q.1.length < 1 := (List.getElem?_eq_some_iff.mp hd2).1
              rw [show j - q.1.length = 0 by omega] at hd2
              cases hd2
              exact hc
          · rw [if_neg e1] at e
            exact (aw.2.1 f r' e).1 j d hd
        · rw [w2, lvT_at _ _ _ hfl, hmem f hfl, lvT_cg f (fun i hi => hmem i (by omega))]
          rfl
  · refine Op.keep h (v := pI (-2)) ?_ ?_
    · rw [hcl]
      unfold pT
      exact rd_i rfl hcf.1 (clI_i hm (it_t rfl (rd_i rfl hB.k (it_f (fun q => ho ((ob0 hO).mp q)) rfl))))
    · refine s1.trans ?_
      exact rd_i rfl mB.k (ix_m mB.a15 rfl (by omega) (by omega) (it_t (by rw [z2]; exact nI_le (by omega) (by omega)) (rd_i rfl mB.k (it_f (fun q => ho ((mb0 mO).mp q)) rfl))))
theorem op_permit (h : Inv x E R F W O T S jW jO M) (f b e : Int32) : Op x W O T jW jO M (fun M => ex 79 6 [pR (some x), pI f, pI b, pI e] M) (fun M => ex 171 6 [pR (some (x + 12)), pI f, pI b, pI e] M) := by
  obtain ⟨hX, hM, aw⟩ := id h
  obtain ⟨⟨hB, hv, hL⟩, -, hR, hF, -, hO, -, -⟩ := id hX
  obtain ⟨mB, -, mR, mF, -, mO, -, -⟩ := id hM
  have hFl := mF.2.1
  have hRl := mR.2.1
  rcases oob_or f F.length (by omega) with ho | ⟨k, hk, rfl⟩
  · refine Op.keep h (v := pI (-1)) ?_ ?_
    · show ex 79 6 [pR (some x), pI f, pI b, pI e] M = _
      rw [tX11_permit]
      exact rd_i rfl hB.k (clR_i (c_famAt_no hB hF ho) (it_t rfl rfl))
    · show ex 171 6 [pR (some (x + 12)), pI f, pI b, pI e] M = _
      rw [tX12_permit]
      exact rd_i rfl mB.k (clI_i (m_isFam_no mB mF ho) (it_t rfl rfl))
  obtain ⟨as, hX0⟩ := id hF
  have hX0 : XFa x M as F := hX0
  have hq : F[k]? = some F[k] := List.getElem?_eq_getElem hk
  have ha : as[k]? = some (as[k]'(by rw [hX0.2.2.1]; exact hk)) := List.getElem?_eq_getElem _
  generalize F[k] = q at hq
  generalize as[k]'(by rw [hX0.2.2.1]; exact hk) = a at ha
  have c109 := c_famAt' hB hX0 ha
  by_cases hb : b = 0
  · rcases oob_or e R.length (by omega) with ho | ⟨r, hr, rfl⟩
    · refine Op.keep h (v := pI (-1)) ?_ ?_
      · show ex 79 6 [pR (some x), pI (nI k), pI b, pI e] M = _
        rw [tX11_permit]
        refine rd_i rfl hB.k (clR_i c109 (it_f (fun q => nomatch q) ?_))
        by_cases e0 : e < 0
        · exact it_t e0 rfl
        · refine it_f e0 (it_t hb (rd_i rfl hB.k (rd_i hB.r2.1 hB.r2.2 (clI_i hR.size (it_f ?_ rfl)))))
          rcases ho with z | z
          · exact absurd z e0
          · rw [I32_le] at z
            rw [I32_lt]
            omega
      · show ex 171 6 [pR (some (x + 12)), pI (nI k), pI b, pI e] M = _
        rw [tX12_permit]
        exact rd_i rfl mB.k (clI_i (m_isFam mB mF hk) (it_f (by decide) (it_t hb (rd_i rfl mB.k (clI_i (m_isRec_no mB mR ho) (it_f (not_not_intro rfl) rfl))))))
    · refine op_permit_c (c := nI r) h hX0 ha hq (Or.inl ⟨r, hr, rfl⟩) ?_ (fun M1 hM1 => ?_)
      · show ex 79 6 [pR (some x), pI (nI k), pI b, pI (nI r)] M = _
        rw [tX11_permit]
        exact rd_i rfl hB.k (clR_i c109 (it_f (fun q => nomatch q) (it_f (nI_pos (by omega)) (it_t hb (rd_i rfl hB.k (rd_i hB.r2.1 hB.r2.2 (clI_i hR.size (it_t (nI_lt hr (by omega)) (it_t hb rfl)))))))))
      · obtain ⟨mB1, -, mR1, mF1, -⟩ := hM1
        show ex 171 6 [pR (some (x + 12)), pI (nI k), pI b, pI (nI r)] M1 = _
        rw [tX12_permit]
        exact rd_i rfl mB1.k (clI_i (m_isFam mB1 mF1 hk) (it_f (by decide) (it_t hb (rd_i rfl mB1.k (clI_i (m_isRec mB1 mR1 hr) (it_t (by decide) (it_t hb rfl)))))))
  · rcases oob_or e k (by omega) with ho | ⟨g, hg, rfl⟩
    · refine Op.keep h (v := pI (-1)) ?_ ?_
      · show ex 79 6 [pR (some x), pI (nI k), pI b, pI e] M = _
        rw [tX11_permit]
        refine rd_i rfl hB.k (clR_i c109 (it_f (fun q => nomatch q) ?_))
        by_cases e0 : e < 0
        · exact it_t e0 rfl
        · refine it_f e0 (it_f hb (it_f ?_ rfl))
          rcases ho with z | z
          · exact absurd z e0
          · rw [I32_le] at z
            rw [I32_lt]
            omega
      · show ex 171 6 [pR (some (x + 12)), pI (nI k), pI b, pI e] M = _
        rw [tX12_permit]
        refine rd_i rfl mB.k (clI_i (m_isFam mB mF hk) (it_f (by decide) (it_f hb (clI_i (m_in _ _ _ M) ?_))))
        rw [inB_no (by omega) ho]
        exact it_f (not_not_intro rfl) rfl
    · have e10 : (10 : Int32) + nI g = nI (10 + g) := by rw [show (10 : Int32) = nI 10 from rfl, nI_add]
      refine op_permit_c (c := nI (10 + g)) h hX0 ha hq (Or.inr ⟨g, hg, rfl⟩) ?_ (fun M1 hM1 => ?_)
      · show ex 79 6 [pR (some x), pI (nI k), pI b, pI (nI g)] M = _
        rw [tX11_permit, ← e10]
        exact rd_i rfl hB.k (clR_i c109 (it_f (fun q => nomatch q) (it_f (nI_pos (by omega)) (it_f hb (it_t (nI_lt hg (by omega)) (it_f hb rfl))))))
      · obtain ⟨mB1, -, mR1, mF1, -⟩ := hM1
        show ex 171 6 [pR (some (x + 12)), pI (nI k), pI b, pI (nI g)] M1 = _
        rw [tX12_permit, ← e10]
        refine rd_i rfl mB1.k (clI_i (m_isFam mB1 mF1 hk) (it_f (by decide) (it_f hb (clI_i (m_in _ _ _ M1) ?_))))
        rw [inB_yes (by omega) hg]
        exact it_t (by decide) (it_f hb rfl)
end OPF
