/-! KEEPING: the model counts, and keeps in order -/
section OPS
variable {x : Nat} {E E' : List TE} {R R' : List TR} {F F' : List TF} {W W' : List TW} {O O' : List TO} {T T' : List TL} {S S' : TS} {jW jO jW' jO' n : Nat} {M M' M1 : Mem}
theorem m_un62 {m k K N : Nat} {q : TO} {rc : TR} (hM : MI m E R F W O T S M) (aw : AW E R F W O T S jW jO) (hq : O[k]? = some q) (hrc : R[q.1]? = some rc) (hK : k < K) : ∀ (n p : Nat) (w : Nat → Bool) (g : Nat → Int32), n + p = rc.1.length → (∀ i, i < K → g i = b32 (w i)) → ∃ g', rn PP 212 62 [some (pR (some m)), none, some (pI (nI N)), some (pI (nI k)), some (pI (nI p)), none, none] [] (uI M (m + 44) g) = rn PP 212 33 [some (pR (some m)), none, some (pI (nI N)), some (pI (nI k + (-1))), none, none, none] [] (uI M (m + 44) g') ∧ ∀ i, i < K → g' i = b32 (mrk w (chl (rc.1.drop p) (q.2.1.drop p)) i) := by
  obtain ⟨rc', y1, hvl, -, hval⟩ := aw.2.2.2.1 k q hq
  rw [hrc] at y1
  cases y1
  have hk : k < O.length := (List.getElem?_eq_some_iff.mp hq).1
  have hr : q.1 < R.length := (List.getElem?_eq_some_iff.mp hrc).1
  intro n
  induction n with
  | zero =>
    intro p w g hp hg
    have hMg : MI m E R F W O T S (uI M (m + 44) g) := hM.uz (UZ.rf.uI (by decide))
    obtain ⟨mB, -, mR, -, -, mO, -, -⟩ := id hMg
    have hr6 := mR.2.1
    have ho164 := mO.2.1
    obtain ⟨w1, w2, w3, w4⟩ := mO.2.2 k q hq
    obtain ⟨⟨z1, z2, z3⟩, -⟩ := mR.2.2.1 q.1 rc hrc
    rw [List.drop_of_length_le (show rc.1.length ≤ p by omega), chl_n]
    refine ⟨g, ?_, hg⟩
    rw [tX12_unkept_62]
    exact rd_i rfl mB.k (rd_i rfl mB.k (ix_m (n := k) mB.a25 rfl (by omega) (by omega) (ix_m (n := q.1) mB.a5 w2 (by omega) (by omega) (it_t (by rw [z2]; exact nI_le (by omega) (by omega)) rfl))))
  | succ n ih =>
    intro p w g hp hg
    have hMg : MI m E R F W O T S (uI M (m + 44) g) := hM.uz (UZ.rf.uI (by decide))
    obtain ⟨mB, -, mR, -, -, mO, -, -⟩ := id hMg
    have hr6 := mR.2.1
    have ho164 := mO.2.1
    obtain ⟨w1, w2, w3, w4⟩ := mO.2.2 k q hq
    obtain ⟨⟨z1, z2, z3⟩, -⟩ := mR.2.2.1 q.1 rc hrc
    obtain ⟨t, ht, hdt⟩ := drop_get (l := rc.1) (i := p) (by omega)
    obtain ⟨v, hv, hdv⟩ := drop_get (l := q.2.1) (i := p) (by omega)
    have pre : ∀ {rr : Option Rt}, (if ¬ t.2.1 = 11 then rn PP 212 62 [some (pR (some m)), none, some (pI (nI N)), some (pI (nI k)), some (pI (nI (p + 1))), none, none] [] (uI M (m + 44) g) else if lg_cmp v (0 : Int64) < 0 then rn PP 212 62 [some (pR (some m)), none, some (pI (nI N)), some (pI (nI k)), some (pI (nI (p + 1))), none, none] [] (uI M (m + 44) g) else rd (some m) 12 (uI M (m + 44) g) fun a16 => ix 22 22 (gR (uI M (m + 44) g) 827 a16) (v.toInt32) (uI M (m + 44) g) fun a17 j18 => zo 1 (bd (wI (uI M (m + 44) g) a17 j18 1) fun M19 => rn PP 212 62 [some (pR (some m)), none, some (pI (nI N)), some (pI (nI k)), some (pI (nI (p + 1))), none, none] [] M19)) = rr → rn PP 212 62 [some (pR (some m)), none, some (pI (nI N)), some (pI (nI k)), some (pI (nI p)), none, none] [] (uI M (m + 44) g) = rr := fun {rr} hr' => by
      rw [tX12_unkept_62]
      refine rd_i rfl mB.k (rd_i rfl mB.k (ix_m (n := k) mB.a25 rfl (by omega) (by omega) (ix_m (n := q.1) mB.a5 w2 (by omega) (by omega) (it_f (by rw [z2]; exact nI_ge (by omega) (by omega)) (rd_i rfl mB.k (ix_m (n := 6 * k + p) mB.a26 (m6 k p) (by omega) (by omega) (rd_i rfl mB.k (rd_i rfl mB.k (ix_m (n := k) mB.a25 rfl (by omega) (by omega) (ix_m (n := 6 * q.1 + p) mB.a7 (by rw [w2]; exact m6 q.1 p) (by omega) (by omega) ?_))))))))))
      rw [(z3 p t ht).2.1, w4 p v hv, nI_1]
      exact hr'
    rw [hdt, hdv, chl_c]
    by_cases h11 : t.2.1 = 11
    · rcases (hval p t v ht hv).2.2.2.2 h11 with hm | ⟨o', q', g', fq, u1, u2, u3, -⟩
      · have en : (if t.2.1 = 11 ∧ v ≠ -1 then v.toInt32.toNatClampNeg :: chl (rc.1.drop (p + 1)) (q.2.1.drop (p + 1)) else chl (rc.1.drop (p + 1)) (q.2.1.drop (p + 1))) = chl (rc.1.drop (p + 1)) (q.2.1.drop (p + 1)) := if_neg (fun z => z.2 hm)
        rw [en]
        obtain ⟨g1, e1, e2⟩ := ih (p + 1) w g (by omega) hg
        exact ⟨g1, pre (it_f (not_not_intro h11) (it_t (by rw [hm]; decide) e1)), e2⟩
      · have ne : v ≠ -1 := by rw [u3]; exact lN_ne (by omega)
        have en : (if t.2.1 = 11 ∧ v ≠ -1 then v.toInt32.toNatClampNeg :: chl (rc.1.drop (p + 1)) (q.2.1.drop (p + 1)) else chl (rc.1.drop (p + 1)) (q.2.1.drop (p + 1))) = o' :: chl (rc.1.drop (p + 1)) (q.2.1.drop (p + 1)) := by rw [if_pos ⟨h11, ne⟩, u3, lN_back (by omega)]
        rw [en, mrk]
        obtain ⟨g1, e1, e2⟩ := ih (p + 1) (fun i => if i = o' then true else w i) (up1 g o' 1) (by omega) (fun i hi => by
          by_cases c : i = o'
          · rw [c, up1_at, if_pos rfl]; rfl
          · rw [up1_no c, if_neg c]; exact hg i hi)
        refine ⟨g1, pre (it_f (not_not_intro h11) (it_f (by rw [u3]; exact fun z => lN_nn (by omega) (cmp_lt0.mp z)) (rd_i rfl mB.k (ix_m (n := o') mB.a44 (by rw [u3, lN_i]) (by omega) (by omega) (zo_i (Or.inr rfl) (bd_i ?_)))))), e2⟩
        rw [wI_uI]
        exact e1
    · have en : (if t.2.1 = 11 ∧ v ≠ -1 then v.toInt32.toNatClampNeg :: chl (rc.1.drop (p + 1)) (q.2.1.drop (p + 1)) else chl (rc.1.drop (p + 1)) (q.2.1.drop (p + 1))) = chl (rc.1.drop (p + 1)) (q.2.1.drop (p + 1)) := if_neg (fun z => h11 z.1)
      rw [en]
      obtain ⟨g1, e1, e2⟩ := ih (p + 1) w g (by omega) hg
      exact ⟨g1, pre (it_t h11 e1), e2⟩
theorem m_un33 {m K : Nat} (hM : MI m E R F W O T S M) (aw : AW E R F W O T S jW jO) (hK : K ≤ O.length) : ∀ (k : Nat) (w : Nat → Bool) (N : Nat) (g : Nat → Int32), k ≤ K → (∀ i, i < K → g i = b32 (w i)) → ∃ g', rn PP 212 33 [some (pR (some m)), none, some (pI (nI N)), some (pI (nI k + (-1))), none, none, none] [] (uI M (m + 44) g) = some (some (pI (nI (wnt R O k w N).1)), uI M (m + 44) g') := by
  intro k
  induction k with
  | zero =>
    intro w N g hk hg
    refine ⟨g, ?_⟩
    rw [tX12_unkept_33]
    exact it_t (by decide) rfl
  | succ k ih =>
    intro w N g hk hg
    have hMg : MI m E R F W O T S (uI M (m + 44) g) := hM.uz (UZ.rf.uI (by decide))
    obtain ⟨mB, -, mR, -, -, mO, -, -⟩ := id hMg
    have ho164 := mO.2.1
    obtain ⟨q, hq⟩ : ∃ q, O[k]? = some q := ⟨_, List.getElem?_eq_getElem (by omega)⟩
    obtain ⟨w1, w2, w3, w4⟩ := mO.2.2 k q hq
    have l27 : aI (uI M (m + 44) g) (m + 27) k = lno O k := by
      rw [w3]
      unfold lno
      rw [getD_at hq]
    have m44 : aI (uI M (m + 44) g) (m + 44) k = b32 (w k) := by rw [aI_uI, up1_at]; exact hg k (by omega)
    rw [nI_dec, wnt]
    have pre : ∀ {rr : Option Rt}, (if b32 (w k) = 0 then rn PP 212 33 [some (pR (some m)), none, some (pI (nI N)), some (pI (nI k + (-1))), none, none, none] [] (uI M (m + 44) g) else rd (some m) 12 (uI M (m + 44) g) fun a4 => ix 20 30 (gR (uI M (m + 44) g) 804 a4) (nI k) (uI M (m + 44) g) fun a5 j6 => if ¬ aI (uI M (m + 44) g) a5 j6 = (-1) then rn PP 212 33 [some (pR (some m)), none, some (pI (nI N)), some (pI (nI k + (-1))), none, none, none] [] (uI M (m + 44) g) else rn PP 212 62 [some (pR (some m)), none, some (pI (nI N + 1)), some (pI (nI k)), some (pI 0), none, none] [] (uI M (m + 44) g)) = rr → rn PP 212 33 [some (pR (some m)), none, some (pI (nI N)), some (pI (nI k)), none, none, none] [] (uI M (m + 44) g) = rr := fun {rr} hr' => by
      rw [tX12_unkept_33]
      refine it_f (nI_pos (by omega)) (rd_i rfl mB.k (ix_m (n := k) mB.a44 rfl (by omega) (by omega) ?_))
      rw [m44]
      exact hr'
    by_cases h : w k = true ∧ lno O k = -1
    · rw [if_pos h]
      obtain ⟨rc, hrc, -⟩ := aw.2.2.2.1 k q hq
      obtain ⟨g1, e1, e2⟩ := m_un62 (N := N + 1) (K := K) hM aw hq hrc (by omega) rc.1.length 0 w g (by omega) hg
      rw [List.drop_zero, List.drop_zero] at e2
      have ech : chn R (O.getD k o0) = chl rc.1 q.2.1 := by
        unfold chn
        rw [getD_at hq, getD_at hrc]
      rw [ech]
      obtain ⟨g2, e3⟩ := ih _ (N + 1) g1 (by omega) e2
      refine ⟨g2, pre (it_f (by rw [h.1]; decide) (rd_i rfl mB.k (ix_m (n := k) mB.a27 rfl (by omega) (by omega) (it_f (not_not_intro (l27.trans h.2)) ?_))))⟩
      rw [nI_1]
      exact e1.trans e3
    · rw [if_neg h]
      obtain ⟨g2, e3⟩ := ih w N g (by omega) hg
      refine ⟨g2, pre ?_⟩
      by_cases c : w k = true
      · exact it_f (by rw [c]; decide) (rd_i rfl mB.k (ix_m (n := k) mB.a27 rfl (by omega) (by omega) (it_t (fun z => h ⟨c, l27.symm.trans z⟩) e3)))
      · exact it_t (by rw [Bool.eq_false_iff.mpr c]; rfl) e3
theorem m_un2 {m o : Nat} (hM : MI m E R F W O T S M) (ho : o < O.length) : ∀ (n i : Nat) (g : Nat → Int32), n + i = o + 1 → (∀ j, j < i → g j = b32 (decide (j = o))) → ∃ g', rn PP 212 2 [some (pR (some m)), some (pI (nI o)), some (pI (nI i)), none, none, none, none] [] (uI M (m + 44) g) = rn PP 212 33 [some (pR (some m)), none, some (pI 0), some (pI (nI o)), none, none, none] [] (uI M (m + 44) g') ∧ ∀ j, j < o + 1 → g' j = b32 (decide (j = o)) := by
  intro n
  induction n with
  | zero =>
    intro i g hi hg
    have ho164 := hM.2.2.2.2.2.1.2.1
    refine ⟨g, ?_, fun j hj => hg j (by omega)⟩
    rw [tX12_unkept_2]
    exact it_t (nI_lt (by omega) (by omega)) rfl
  | succ n ih =>
    intro i g hi hg
    have ho164 := hM.2.2.2.2.2.1.2.1
    have hMg : MI m E R F W O T S (uI M (m + 44) g) := hM.uz (UZ.rf.uI (by decide))
    obtain ⟨mB, -⟩ := id hMg
    have key : ∀ v : Int32, v = b32 (decide (i = o)) → ∀ j, j < i + 1 → up1 g i v j = b32 (decide (j = o)) := fun v hv j hj => by
      by_cases c : j = i
      · rw [c, up1_at]; exact hv
      · rw [up1_no c]; exact hg j (by omega)
    by_cases c : i = o
    · obtain ⟨g', e1, e2⟩ := ih (i + 1) (up1 g i 1) (by omega) (key 1 (by rw [decide_eq_true c]; rfl))
      refine ⟨g', ?_, e2⟩
      rw [tX12_unkept_2]
      refine it_f (nI_nl0 (by omega) (by omega)) (rd_i rfl mB.k (it_f (not_not_intro (by rw [c])) (ix_m (n := i) mB.a44 rfl (by omega) (by omega) (zo_i (Or.inr rfl) (bd_i ?_)))))
      rw [wI_uI, nI_1]
      exact e1
    · obtain ⟨g', e1, e2⟩ := ih (i + 1) (up1 g i 0) (by omega) (key 0 (by rw [decide_eq_false c]; rfl))
      refine ⟨g', ?_, e2⟩
      rw [tX12_unkept_2]
      refine it_f (nI_nl0 (by omega) (by omega)) (rd_i rfl mB.k (it_t (fun z => c (nI_inj (by omega) (by omega) z)) (ix_m (n := i) mB.a44 rfl (by omega) (by omega) (zo_i (Or.inl rfl) (bd_i ?_)))))
      rw [wI_uI, nI_1]
      exact e1
theorem m_unkept {m o : Nat} (hM : MI m E R F W O T S M) (aw : AW E R F W O T S jW jO) (ho : o < O.length) : ∃ g, ex 212 7 [pR (some m), pI (nI o)] M = some (some (pI (nI (wnt R O (o + 1) (fun i => decide (i = o)) 0).1)), uI M (m + 44) g) := by
  obtain ⟨g1, e1, e2⟩ := m_un2 hM ho (o + 1) 0 (aI M (m + 44)) (by omega) (fun j hj => by omega)
  obtain ⟨g2, e3⟩ := m_un33 (K := o + 1) hM aw (by omega) (o + 1) _ 0 g1 (Nat.le_refl _) e2
  refine ⟨g2, ?_⟩
  rw [uI_self] at e1
  rw [nI_dec] at e3
  rw [tX12_unkept]
  exact e1.trans e3
/-- the first parts hold nothing that is to be kept -/
def NK (R : List TR) (O : List TO) (q : TO) (p : Nat) : Prop := ∀ (j : Nat) (t : TP) (v : Int64), j < p → (R.getD q.1 ([], [], 0)).1[j]? = some t → q.2.1[j]? = some v → t.2.1 = 11 → v ≠ -1 → lno O v.toInt32.toNatClampNeg ≠ -1
theorem NK_fck {q : TO} {rc : TR} (hrc : R[q.1]? = some rc) (hvl : q.2.1.length = rc.1.length) : ∀ p, p ≤ rc.1.length → NK R O q p → fck O (chn R q) = fck O (chl (rc.1.drop p) (q.2.1.drop p)) := by
  have ech : chn R q = chl rc.1 q.2.1 := by unfold chn; rw [getD_at hrc]
  intro p
  induction p with
  | zero => intro _ _; rw [ech, List.drop_zero, List.drop_zero]
  | succ p ih =>
    intro hp h
    rw [ih (by omega) (fun j t v hj => h j t v (by omega))]
    obtain ⟨t, ht, hdt⟩ := drop_get (l := rc.1) (i := p) (by omega)
    obtain ⟨v, hv, hdv⟩ := drop_get (l := q.2.1) (i := p) (by omega)
    rw [hdt, hdv, chl_c]
    by_cases g : t.2.1 = 11 ∧ v ≠ -1
    · rw [if_pos g, fck_c, if_neg (h p t v (by omega) (by rw [getD_at hrc]; exact ht) hv g.1 g.2)]
    · rw [if_neg g]
def plR (R : List TR) (O : List TO) (f : Nat → Int32) : Nat → List Nat → Prop
  | _, [] => True
  | c, o :: ss => (∃ (p : Nat) (t : TP) (v : Int64), f ss.length = nI (p + 1) ∧ NK R O (O.getD o o0) p ∧ (R.getD (O.getD o o0).1 ([], [], 0)).1[p]? = some t ∧ (O.getD o o0).2.1[p]? = some v ∧ t.2.1 = 11 ∧ v = lN c) ∧ plR R O f o ss
theorem plR.cg {f f' : Nat → Int32} : ∀ {ss : List Nat} {c : Nat}, plR R O f c ss → (∀ j, j < ss.length → f' j = f j) → plR R O f' c ss := by
  intro ss
  induction ss with
  | nil => intro c _ _; exact trivial
  | cons o ss ih =>
    intro c h hf
    rw [List.length_cons] at hf
    obtain ⟨⟨p, t, v, h1, h2⟩, h3⟩ := h
    exact ⟨⟨p, t, v, by rw [hf _ (by omega)]; exact h1, h2⟩, ih h3 (fun j hj => hf j (by omega))⟩
theorem lno_set {k c : Nat} {q' : TO} (hk : k < O.length) (hl : ¬ q'.2.2.1 = -1) (h : c = k ∨ lno O c ≠ -1) : lno (O.set k q') c ≠ -1 := by
  unfold lno at *
  by_cases z : c = k
  · rw [z, List.getD_eq_getElem?_getD, List.getElem?_set_self hk]
    exact hl
  · rw [List.getD_eq_getElem?_getD, List.getElem?_set_ne (fun w => z w.symm), ← List.getD_eq_getElem?_getD]
    exact h.resolve_left z
theorem getD_set {k c : Nat} {q' : TO} (h : c ≠ k) : (O.set k q').getD c o0 = O.getD c o0 := by
  rw [List.getD_eq_getElem?_getD, List.getElem?_set_ne (fun w => h w.symm), ← List.getD_eq_getElem?_getD]
theorem plR.set {f : Nat → Int32} {k : Nat} {q' : TO} (hk : k < O.length) (hl : ¬ q'.2.2.1 = -1) : ∀ {ss : List Nat} {c : Nat}, plR R O f c ss → (∀ i ∈ ss, i ≠ k) → plR R (O.set k q') f c ss := by
  intro ss
  induction ss with
  | nil => intro c _ _; exact trivial
  | cons o ss ih =>
    intro c h hf
    obtain ⟨⟨p, t, v, h1, h2, h3⟩, h4⟩ := h
    refine ⟨⟨p, t, v, h1, ?_⟩, ih h4 (fun i hi => hf i (List.mem_cons_of_mem _ hi))⟩
    rw [getD_set (hf o List.mem_cons_self)]
    exact ⟨fun j t' v' hj y1 y2 y3 y4 => lno_set hk hl (Or.inr (h2 j t' v' hj y1 y2 y3 y4)), h3⟩
end OPS
