/-! WHAT FITS A PART: the model -/
section OPS
variable {x : Nat} {E E' : List TE} {R R' : List TR} {F F' : List TF} {W W' : List TW} {O O' : List TO} {T T' : List TL} {S S' : TS} {jW jO jW' jO' n : Nat} {M M' M1 : Mem}
theorem wfF.mb {nR : Nat} (h : wfF nR F) (hR : nR ≤ 6) (h3 : F.length ≤ 3) : ∀ (i : Nat) (c : Int32), c ∈ (F.getD i ([], [])).1 → mbOK i c := fun i c hc => by
  cases hr : F[i]? with
  | none => rw [List.getD_eq_getElem?_getD, hr] at hc; simp at hc
  | some r =>
    rw [List.getD_eq_getElem?_getD, hr] at hc
    have hc : c ∈ r.1 := hc
    obtain ⟨j, hj⟩ := List.getElem?_of_mem hc
    have hi : i < F.length := (List.getElem?_eq_some_iff.mp hr).1
    rcases (h i r hr).1 j c hj with ⟨r', y1, y2⟩ | ⟨g, y1, y2⟩
    · exact Or.inl ⟨r', by omega, y2⟩
    · exact Or.inr ⟨g, y1, by omega, y2⟩
theorem m_isOfFam {m k r : Nat} {fq : TF} (hM : MI m E R F W O T S M) (hw : wfF R.length F) (hk : F[k]? = some fq) : ∃ M', ex 174 3 [pR (some m), pI (nI r), pI (nI k)] M = some (some (pI (if nI r ∈ fq.2 then 1 else 0)), M') ∧ CU m M M' ∧ MI m E R F W O T S M' := by
  obtain ⟨mB, -, mR, mF, -, -, -, -⟩ := id hM
  have hkl : k < F.length := (List.getElem?_eq_some_iff.mp hk).1
  have hmb := hw.mb mR.2.1 mF.2.1
  have hlv : fq.2 = lvF F k := by rw [(hw k fq hk).2, lvT_at _ _ _ hkl]; rfl
  have h6 : fq.2.length ≤ 6 := by
    rw [hlv]
    exact pigeon 6 _ (gd_lv hmb k).1 (gd_lv hmb k).2
  obtain ⟨M2, e2, f2⟩ := m_findLeaves mB mF hkl hmb
  obtain ⟨⟨mB2, cu, uf⟩, ⟨w1, w2, w3⟩, -⟩ := id f2
  refine ⟨M2, ?_, cu, hM.uf uf (mF.cg w1 w2 w3)⟩
  have hm := fndI_mem (c := nI r) fq.2 0 (by omega)
  rw [tX12_isOfFamily]
  refine rd_i rfl mB.k (clV_i e2 (rd_i rfl mB2.k (clI_i (m_tagOf f2 _) ?_)))
  rw [← hlv]
  by_cases c : nI r ∈ fq.2
  · rw [if_pos c]
    exact it_f (fun z => hm.mp z c) (zo_i (Or.inr rfl) rfl)
  · rw [if_neg c]
    exact it_t (hm.mpr c) (zo_i (Or.inl rfl) rfl)
theorem wfF.len6 {nR : Nat} (h : wfF nR F) (hR : nR ≤ 6) (h3 : F.length ≤ 3) : ∀ (e : Nat) (q : TF), F[e]? = some q → q.2.length ≤ 6 := fun e q hq => by
  have hmb := h.mb hR h3
  have hkl : e < F.length := (List.getElem?_eq_some_iff.mp hq).1
  rw [(h e q hq).2, lvT_at _ _ _ hkl]
  exact pigeon 6 _ (gd_lv hmb e).1 (gd_lv hmb e).2
theorem in_m1 {v : Int64} {n : Nat} (hn : n < 2147483648) : (inB v (-1) (nI n - 1).toInt64 = 1 ↔ v = -1 ∨ ∃ c, c < n ∧ v = lN c) ∧ (inB v (-1) (nI n - 1).toInt64 = 0 ↔ ¬ (v = -1 ∨ ∃ c, c < n ∧ v = lN c)) := by
  have key : (-1 : Int64) ≤ v ∧ v ≤ (nI n - 1).toInt64 ↔ v = -1 ∨ ∃ c, c < n ∧ v = lN c := by
    rw [I64_le, I64_le, Int32.toInt_toInt64, nIm1 hn, show (-1 : Int64).toInt = -1 from rfl]
    constructor
    · rintro ⟨h1, h2⟩
      by_cases c : v.toInt = -1
      · exact Or.inl (Int64.toInt_inj.mp c)
      · refine Or.inr ⟨v.toInt.toNat, by omega, Int64.toInt_inj.mp ?_⟩
        rw [lN_toInt (by omega)]
        omega
    · rintro (rfl | ⟨c, hc, rfl⟩)
      · rw [show (-1 : Int64).toInt = -1 from rfl]; omega
      · rw [lN_toInt (by omega)]; omega
  unfold inB
  by_cases c : (-1 : Int64) ≤ v ∧ v ≤ (nI n - 1).toInt64
  · rw [if_pos c]
    exact ⟨⟨fun _ => key.mp c, fun _ => rfl⟩, ⟨fun z => absurd z (by decide), fun z => absurd (key.mp c) z⟩⟩
  · rw [if_neg c]
    exact ⟨⟨fun z => absurd z (by decide), fun z => absurd (key.mpr z) c⟩, ⟨fun _ z => c (key.mpr z), fun _ => rfl⟩⟩
theorem in_set {v : Int64} {n : Nat} (hn : n < 60) : (inB v 0 (((1 : Int64) <<< ((nI n).toInt64 &&& 63)) - 1) = 1 ↔ v.toUInt64.toNat < 2 ^ n) ∧ (inB v 0 (((1 : Int64) <<< ((nI n).toInt64 &&& 63)) - 1) = 0 ↔ ¬ v.toUInt64.toNat < 2 ^ n) := by
  have pb : 2 ^ n ≤ 2 ^ 60 := Nat.pow_le_pow_right (by omega) (by omega)
  have b60 : (2 : Nat) ^ 60 = 1152921504606846976 := by decide
  have p0 : 0 < 2 ^ n := Nat.two_pow_pos _
  have hmk := N64_mk n (by omega)
  have hi := N64_int v
  have hlt := N64_lt v
  have key : (0 : Int64) ≤ v ∧ v ≤ ((1 : Int64) <<< ((nI n).toInt64 &&& 63)) - 1 ↔ N64 v < 2 ^ n := by
    rw [I64_le, I64_le, show (0 : Int64).toInt = 0 from rfl, N64_pos (v := ((1 : Int64) <<< ((nI n).toInt64 &&& 63)) - 1) (by rw [hmk]; omega), hmk, hi]
    generalize 2 ^ n = Y at *
    split <;> omega
  unfold inB
  by_cases c : (0 : Int64) ≤ v ∧ v ≤ ((1 : Int64) <<< ((nI n).toInt64 &&& 63)) - 1
  · rw [if_pos c]
    exact ⟨⟨fun _ => key.mp c, fun _ => rfl⟩, ⟨fun z => absurd z (by decide), fun z => absurd (key.mp c) z⟩⟩
  · rw [if_neg c]
    exact ⟨⟨fun z => absurd z (by decide), fun z => absurd (key.mpr z) c⟩, ⟨fun _ z => c (key.mpr z), fun _ => rfl⟩⟩
theorem m_good {m r p : Nat} {rc : TR} {t : TP} {v : Int64} (hM : MI m E R F W O T S M) (hw : wfF R.length F) (hrc : R[r]? = some rc) (ht : rc.1[p]? = some t) (hs : srtOK E.length F.length t.2.1 t.2.2.1) : ∃ M', CU m M M' ∧ MI m E R F W O T S M' ∧ (gV E F W O t.2.1 t.2.2.1 v → ex 197 4 [pR (some m), pI (nI (6 * r + p)), pJ v] M = some (some (pI 1), M')) ∧ (¬ gV E F W O t.2.1 t.2.2.1 v → ex 197 4 [pR (some m), pI (nI (6 * r + p)), pJ v] M = some (some (pI 0), M')) := by
  obtain ⟨mB, mE, mR, mF, mW, mO, -, -⟩ := id hM
  have hE4 := mE.2.1
  have hR6 := mR.2.1
  have hF3 := mF.2.1
  have hW4 := mW.2.1
  have hO1 := mO.2.1
  have hr : r < R.length := (List.getElem?_eq_some_iff.mp hrc).1
  have hp : p < rc.1.length := (List.getElem?_eq_some_iff.mp ht).1
  obtain ⟨⟨z1, z2, z3⟩, -⟩ := mR.2.2.1 r rc hrc
  obtain ⟨y1, y2, y3, y4⟩ := z3 p t ht
  obtain ⟨s1, s2, s3, s4, s5⟩ := hs
  rw [tX12_isGood]
  have pre : ∀ {f : Int32 → Option Rt} {q : Option Rt}, f t.2.1 = q → (rd (some m) 12 M fun a1 => ix 20 30 (gR M 776 a1) (nI (6 * r + p)) M fun a2 j3 => f (aI M a2 j3)) = q := fun {f q} hf => rd_i rfl mB.k (ix_m (n := 6 * r + p) mB.a7 rfl (by omega) (by omega) (by rw [y2]; exact hf))
  by_cases e8 : t.2.1 = 8
  · obtain ⟨e, he, hf⟩ := s3 (Or.inl e8)
    obtain ⟨q, hq⟩ : ∃ q, E[e]? = some q := ⟨_, List.getElem?_eq_getElem he⟩
    obtain ⟨w1, w2, -⟩ := mE.2.2.1 e q hq
    have ig : gV E F W O t.2.1 t.2.2.1 v ↔ v = -1 ∨ ∃ c, c < q.1.length ∧ v = lN c := by
      constructor
      · intro g
        rcases g.1 e8 with z | ⟨e', q', c, u1, u2, u3, u4⟩
        · exact Or.inl z
        · have he' : e' < E.length := (List.getElem?_eq_some_iff.mp u2).1
          rw [hf] at u1
          have := nI_inj (by omega) (by omega) u1
          subst this
          rw [hq] at u2
          cases u2
          exact Or.inr ⟨c, u3, u4⟩
      · intro g
        refine ⟨fun _ => ?_, fun z => ?_, fun z => ?_, fun z => ?_⟩
        · rcases g with g | ⟨c, g1, g2⟩
          · exact Or.inl g
          · exact Or.inr ⟨e, q, c, hf, hq, g1, g2⟩
        all_goals (rw [e8] at z; exact absurd z (by decide))
    obtain ⟨i1, i2⟩ := in_m1 (v := v) (n := q.1.length) (by omega)
    have run : ∀ b : Int32, (b = 0 ∨ b = 1) → inB v (-1) (nI q.1.length - 1).toInt64 = b → (ix 20 30 (gR M 777 m) (nI (6 * r + p)) M fun a6 j7 => ix 20 30 (gR M 769 m) (aI M a6 j7) M fun a8 j9 => clI (ex 157 6 [pJ v, pJ (-1 : Int64), pJ ((aI M a8 j9 - 1).toInt64)] M) fun r11 M10 => zo r11 (some (some (pI r11), M10))) = some (some (pI b), M) := fun b hb hbe => by
      refine ix_m (n := 6 * r + p) mB.a8 rfl (by omega) (by omega) (ix_m (n := e) mB.a1 (by rw [y3]; exact hf) (by omega) (by omega) ?_)
      rw [w2]
      refine clI_i (m_in _ _ _ M) ?_
      rw [hbe]
      exact zo_i hb rfl
    refine ⟨M, CU.rf, hM, fun g => ?_, fun g => ?_⟩
    · exact rd_i rfl mB.k (ix_m (n := 6 * r + p) mB.a7 rfl (by omega) (by omega) (it_t (y2.trans e8) (rd_i rfl mB.k (rd_i rfl mB.k (run 1 (Or.inr rfl) (i1.mpr (ig.mp g)))))))
    · exact rd_i rfl mB.k (ix_m (n := 6 * r + p) mB.a7 rfl (by omega) (by omega) (it_t (y2.trans e8) (rd_i rfl mB.k (rd_i rfl mB.k (run 0 (Or.inl rfl) (i2.mpr (fun z => g (ig.mpr z))))))))
  by_cases e9 : t.2.1 = 9
  · obtain ⟨e, he, hf⟩ := s3 (Or.inr e9)
    obtain ⟨q, hq⟩ : ∃ q, E[e]? = some q := ⟨_, List.getElem?_eq_getElem he⟩
    obtain ⟨w1, w2, -⟩ := mE.2.2.1 e q hq
    have ig : gV E F W O t.2.1 t.2.2.1 v ↔ v.toUInt64.toNat < 2 ^ q.1.length := by
      constructor
      · intro g
        obtain ⟨e', q', u1, u2, u3⟩ := g.2.1 e9
        have he' : e' < E.length := (List.getElem?_eq_some_iff.mp u2).1
        rw [hf] at u1
        have := nI_inj (by omega) (by omega) u1
        subst this
        rw [hq] at u2
        cases u2
        exact u3
      · intro g
        refine ⟨fun z => ?_, fun _ => ⟨e, q, hf, hq, g⟩, fun z => ?_, fun z => ?_⟩
        all_goals (rw [e9] at z; exact absurd z (by decide))
    obtain ⟨i1, i2⟩ := in_set (v := v) (n := q.1.length) (by omega)
    have run : ∀ b : Int32, (b = 0 ∨ b = 1) → inB v 0 (((1 : Int64) <<< ((nI q.1.length).toInt64 &&& 63)) - 1) = b → (ix 20 30 (gR M 777 m) (nI (6 * r + p)) M fun a14 j15 => ix 20 30 (gR M 769 m) (aI M a14 j15) M fun a16 j17 => clI (ex 157 6 [pJ v, pJ (0 : Int64), pJ (((1 : Int64) <<< ((aI M a16 j17).toInt64 &&& 63)) - (1 : Int64))] M) fun r19 M18 => zo r19 (some (some (pI r19), M18))) = some (some (pI b), M) := fun b hb hbe => by
      refine ix_m (n := 6 * r + p) mB.a8 rfl (by omega) (by omega) (ix_m (n := e) mB.a1 (by rw [y3]; exact hf) (by omega) (by omega) ?_)
      rw [w2]
      refine clI_i (m_in _ _ _ M) ?_
      rw [hbe]
      exact zo_i hb rfl
    refine ⟨M, CU.rf, hM, fun g => ?_, fun g => ?_⟩
    · exact rd_i rfl mB.k (ix_m (n := 6 * r + p) mB.a7 rfl (by omega) (by omega) (it_f (fun z => e8 (y2.symm.trans z)) (it_t (y2.trans e9) (rd_i rfl mB.k (rd_i rfl mB.k (run 1 (Or.inr rfl) (i1.mpr (ig.mp g))))))))
    · exact rd_i rfl mB.k (ix_m (n := 6 * r + p) mB.a7 rfl (by omega) (by omega) (it_f (fun z => e8 (y2.symm.trans z)) (it_t (y2.trans e9) (rd_i rfl mB.k (rd_i rfl mB.k (run 0 (Or.inl rfl) (i2.mpr (fun z => g (ig.mpr z)))))))))
  by_cases e10 : t.2.1 = 10
  · by_cases hm : v = -1
    · have g : gV E F W O t.2.1 t.2.2.1 v := ⟨fun _ => Or.inl hm, fun z => absurd z e9, fun _ => Or.inl hm, fun _ => Or.inl hm⟩
      exact ⟨M, CU.rf, hM, fun _ => rd_i rfl mB.k (ix_m (n := 6 * r + p) mB.a7 rfl (by omega) (by omega) (it_f (fun z => e8 (y2.symm.trans z)) (it_f (fun z => e9 (y2.symm.trans z)) (it_t (y2.trans e10) (it_t (cmp_eq0.mpr hm) (zo_i (Or.inr rfl) rfl)))))), fun z => absurd g z⟩
    · have hm' : ¬ lg_cmp v (-1 : Int64) = 0 := fun z => hm (cmp_eq0.mp z)
      rcases l_or v (n := W.length) (by omega) with hv | ⟨c, hc, rfl⟩
      · have ng : ¬ gV E F W O t.2.1 t.2.2.1 v := fun g => by
          rcases g.2.2.1 e10 with z | ⟨r, w, u1, u2, u3⟩
          · exact hm z
          · have hr : r < W.length := (List.getElem?_eq_some_iff.mp u1).1
            rw [u2] at hv
            rcases hv with hv | hv
            · exact lN_nn (by omega) hv
            · rw [lN_le (by omega) (by omega)] at hv; omega
        refine ⟨M, CU.rf, hM, fun g => absurd g ng, fun _ => rd_i rfl mB.k (ix_m (n := 6 * r + p) mB.a7 rfl (by omega) (by omega) (it_f (fun z => e8 (y2.symm.trans z)) (it_f (fun z => e9 (y2.symm.trans z)) (it_t (y2.trans e10) (it_f hm' (rd_i rfl mB.k ?_))))))⟩
        rw [mW.1]
        refine clI_i (m_in _ _ _ M) ?_
        rw [inL_no (by omega) hv]
        exact it_t rfl (zo_i (Or.inl rfl) rfl)
      · obtain ⟨w, hwc⟩ : ∃ w, W[c]? = some w := ⟨_, List.getElem?_eq_getElem hc⟩
        have lw := (mW.2.2 c w hwc).2.1
        have ig : gV E F W O t.2.1 t.2.2.1 (lN c) ↔ w.1 = t.2.2.1 := by
          constructor
          · intro g
            rcases g.2.2.1 e10 with z | ⟨r, w', u1, u2, u3⟩
            · exact absurd z hm
            · have hr : r < W.length := (List.getElem?_eq_some_iff.mp u1).1
              have := lN_inj (by omega) (by omega) u2
              subst this
              rw [hwc] at u1
              cases u1
              exact u3
          · intro g
            exact ⟨fun z => absurd z e8, fun z => absurd z e9, fun _ => Or.inr ⟨c, w, hwc, rfl, g⟩, fun z => by rw [e10] at z; exact absurd z (by decide)⟩
        refine ⟨M, CU.rf, hM, fun g => ?_, fun g => ?_⟩
        · refine rd_i rfl mB.k (ix_m (n := 6 * r + p) mB.a7 rfl (by omega) (by omega) (it_f (fun z => e8 (y2.symm.trans z)) (it_f (fun z => e9 (y2.symm.trans z)) (it_t (y2.trans e10) (it_f hm' (rd_i rfl mB.k ?_))))))
          rw [mW.1]
          refine clI_i (m_in _ _ _ M) ?_
          rw [inL_yes (by omega) hc]
          refine it_f (by decide) (rd_i rfl mB.k (ix_m (n := c) mB.a22 (lN_i _) (by omega) (by omega) (rd_i rfl mB.k (ix_m (n := 6 * r + p) mB.a8 rfl (by omega) (by omega) (it_f (not_not_intro ?_) (zo_i (Or.inr rfl) rfl))))))
          rw [lw, y3]
          exact ig.mp g
        · refine rd_i rfl mB.k (ix_m (n := 6 * r + p) mB.a7 rfl (by omega) (by omega) (it_f (fun z => e8 (y2.symm.trans z)) (it_f (fun z => e9 (y2.symm.trans z)) (it_t (y2.trans e10) (it_f hm' (rd_i rfl mB.k ?_))))))
          rw [mW.1]
          refine clI_i (m_in _ _ _ M) ?_
          rw [inL_yes (by omega) hc]
          refine it_f (by decide) (rd_i rfl mB.k (ix_m (n := c) mB.a22 (lN_i _) (by omega) (by omega) (rd_i rfl mB.k (ix_m (n := 6 * r + p) mB.a8 rfl (by omega) (by omega) (it_t (fun z => g (ig.mpr ?_)) (zo_i (Or.inl rfl) rfl))))))
          rw [lw, y3] at z
          exact z
  by_cases e11 : t.2.1 = 11
  · by_cases hm : v = -1
    · have g : gV E F W O t.2.1 t.2.2.1 v := ⟨fun _ => Or.inl hm, fun z => absurd z e9, fun _ => Or.inl hm, fun _ => Or.inl hm⟩
      exact ⟨M, CU.rf, hM, fun _ => rd_i rfl mB.k (ix_m (n := 6 * r + p) mB.a7 rfl (by omega) (by omega) (it_f (fun z => e8 (y2.symm.trans z)) (it_f (fun z => e9 (y2.symm.trans z)) (it_f (fun z => e10 (y2.symm.trans z)) (it_t (y2.trans e11) (it_t (cmp_eq0.mpr hm) (zo_i (Or.inr rfl) rfl))))))), fun z => absurd g z⟩
    · have hm' : ¬ lg_cmp v (-1 : Int64) = 0 := fun z => hm (cmp_eq0.mp z)
      have e196 : ∀ b : Int32, (b = 0 ∨ b = 1) → inB v 0 (nI O.length - 1).toInt64 = b → ex 196 3 [pR (some m), pJ v] M = some (some (pI b), M) := fun b hb hbe => by
        rw [tX12_isObject]
        refine rd_i rfl mB.k ?_
        rw [mO.1]
        refine clI_i (m_in _ _ _ M) ?_
        rw [hbe]
        exact zo_i hb rfl
      obtain ⟨f, hf1, hf⟩ := s5 e11
      obtain ⟨fq, hfq⟩ : ∃ q, F[f]? = some q := ⟨_, List.getElem?_eq_getElem hf1⟩
      rcases l_or v (n := O.length) (by omega) with hv | ⟨c, hc, rfl⟩
      · have ng : ¬ gV E F W O t.2.1 t.2.2.1 v := fun g => by
          rcases g.2.2.2 e11 with z | ⟨o', q', g', fq', u1, u2, u3, -⟩
          · exact hm z
          · rw [u3] at hv
            rcases hv with hv | hv
            · exact lN_nn (by omega) hv
            · rw [lN_le (by omega) (by omega)] at hv; omega
        exact ⟨M, CU.rf, hM, fun g => absurd g ng, fun _ => rd_i rfl mB.k (ix_m (n := 6 * r + p) mB.a7 rfl (by omega) (by omega) (it_f (fun z => e8 (y2.symm.trans z)) (it_f (fun z => e9 (y2.symm.trans z)) (it_f (fun z => e10 (y2.symm.trans z)) (it_t (y2.trans e11) (it_f hm' (rd_i rfl mB.k (clI_i (e196 0 (Or.inl rfl) (inL_no (by omega) hv)) (it_t rfl (zo_i (Or.inl rfl) rfl))))))))))⟩
      · obtain ⟨w, hwc⟩ : ∃ w, O[c]? = some w := ⟨_, List.getElem?_eq_getElem hc⟩
        have lw := (mO.2.2 c w hwc).2.1
        obtain ⟨M2, e174, cu, hM2⟩ := m_isOfFam (r := w.1) hM hw hfq
        have ig : gV E F W O t.2.1 t.2.2.1 (lN c) ↔ nI w.1 ∈ fq.2 := by
          constructor
          · intro g
            rcases g.2.2.2 e11 with z | ⟨o', q', g', fq', u1, u2, u3, u4, u5, u6⟩
            · exact absurd z hm
            · have := lN_inj (by omega) (by omega) u3
              subst this
              rw [hwc] at u2
              cases u2
              have hg' : g' < F.length := (List.getElem?_eq_some_iff.mp u5).1
              rw [hf] at u4
              have := nI_inj (by omega) (by omega) u4
              subst this
              rw [hfq] at u5
              cases u5
              exact u6
          · intro g
            exact ⟨fun z => absurd z e8, fun z => absurd z e9, fun z => absurd z e10, fun _ => Or.inr ⟨c, w, f, fq, hc, hwc, rfl, hf, hfq, g⟩⟩
        have run : ∀ {q : Option Rt}, (clI (ex 174 3 [pR (some m), pI (nI w.1), pI (nI f)] M) fun r40 M38 => if r40 = 0 then zo 0 (some (some (pI 0), M38)) else zo 1 (some (some (pI 1), M38))) = q → (rd (some m) 12 M fun a1 => ix 20 30 (gR M 802 a1) (lN c).toInt32 M fun a33 j34 => rd (some m) 12 M fun a35 => ix 20 30 (gR M 777 a35) (nI (6 * r + p)) M fun a36 j37 => rd (some m) 12 M fun a39 => clI (ex 174 3 [pR (some a39), pI (aI M a33 j34), pI (aI M a36 j37)] M) fun r40 M38 => if r40 = 0 then zo 0 (some (some (pI 0), M38)) else zo 1 (some (some (pI 1), M38))) = q := fun {q} hq => rd_i rfl mB.k (ix_m (n := c) mB.a25 (lN_i _) (by omega) (by omega) (rd_i rfl mB.k (ix_m (n := 6 * r + p) mB.a8 rfl (by omega) (by omega) (rd_i rfl mB.k (by rw [lw, y3, hf]; exact hq)))))
        refine ⟨M2, cu, hM2, fun g => ?_, fun g => ?_⟩
        · rw [if_pos (ig.mp g)] at e174
          exact rd_i rfl mB.k (ix_m (n := 6 * r + p) mB.a7 rfl (by omega) (by omega) (it_f (fun z => e8 (y2.symm.trans z)) (it_f (fun z => e9 (y2.symm.trans z)) (it_f (fun z => e10 (y2.symm.trans z)) (it_t (y2.trans e11) (it_f hm' (rd_i rfl mB.k (clI_i (e196 1 (Or.inr rfl) (inL_yes (by omega) hc)) (it_f (by decide) (run (clI_i e174 (it_f (by decide) (zo_i (Or.inr rfl) rfl)))))))))))))
        · rw [if_neg (fun z => g (ig.mpr z))] at e174
          exact rd_i rfl mB.k (ix_m (n := 6 * r + p) mB.a7 rfl (by omega) (by omega) (it_f (fun z => e8 (y2.symm.trans z)) (it_f (fun z => e9 (y2.symm.trans z)) (it_f (fun z => e10 (y2.symm.trans z)) (it_t (y2.trans e11) (it_f hm' (rd_i rfl mB.k (clI_i (e196 1 (Or.inr rfl) (inL_yes (by omega) hc)) (it_f (by decide) (run (clI_i e174 (it_t rfl (zo_i (Or.inl rfl) rfl)))))))))))))
  · have g : gV E F W O t.2.1 t.2.2.1 v := ⟨fun z => absurd z e8, fun z => absurd z e9, fun z => absurd z e10, fun z => absurd z e11⟩
    exact ⟨M, CU.rf, hM, fun _ => rd_i rfl mB.k (ix_m (n := 6 * r + p) mB.a7 rfl (by omega) (by omega) (it_f (fun z => e8 (y2.symm.trans z)) (it_f (fun z => e9 (y2.symm.trans z)) (it_f (fun z => e10 (y2.symm.trans z)) (it_f (fun z => e11 (y2.symm.trans z)) (zo_i (Or.inr rfl) rfl)))))), fun z => absurd g z⟩
end OPS
