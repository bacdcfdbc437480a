/-! LOADING: what a part becomes -/
section OPS
variable {x : Nat} {E E' : List TE} {R R' : List TR} {F F' : List TF} {W W' : List TW} {O O' : List TO} {T T' : List TL} {S S' : TS} {jW jO jW' jO' n : Nat} {M M' M1 : Mem}
theorem lt8_n {s : Int32} {i : Nat} (h : s = nI i) (hi : i < 12) (h8 : s < 8) : i < 8 := by
  rw [h, I32_lt, nI_toInt (by omega)] at h8
  have : (8 : Int32).toInt = 8 := rfl
  omega
theorem val_both {as : List Nat} {ad : Nat → Nat → Nat} {l pk a r p ka : Nat} {q : TL} {t : TQ} {rc : TR} {s : TP} (hX : XI x E R F W O T S jW jO M) (aw : AW E R F W O T S jW jO) (hla : XLa x M as ad T) (ha : as[l]? = some a) (hq : T[l]? = some q) (ht : q.2.2.1[pk]? = some t) (hrc : R[r]? = some rc) (hs : rc.1[p]? = some s) (hp : cP M s ka) (hgs : gsP t s) (hah : s.2.1 = 11 → ∀ (l' : Nat) (q' : TL), t.2.2.2.1 = lN l' → T[l']? = some q' → q'.2.2.2 ≠ -1) (hE4 : E.length ≤ 4) (hE8 : ∀ (e : Nat) (q : TE), E[e]? = some q → q.1.length ≤ 8) (hR6 : R.length ≤ 6) (hF3 : F.length ≤ 3) (hT64 : T.length ≤ 64) (hq6 : q.2.2.1.length ≤ 6) (hW : W.length < 440) (hO : O.length ≤ 164) : VB x E R F W O T S jW jO as ad M s r p l pk ka := by
  obtain ⟨srt, -⟩ := (aw.1 r rc hrc).1 p s hs
  have kok := (aw.2.2.2.2.1 l q hq).2.2 pk t ht
  obtain ⟨xq, cq⟩ := hla.q ha hq ht
  obtain ⟨q1, q2, q3, q4, q5, q6, ⟨d, g1, g2, g3, g4, g5⟩, q8⟩ := id cq
  obtain ⟨p1, p2, p3, p4, p5⟩ := id hp
  have hB := hX.1.1
  have hl : l < T.length := (List.getElem?_eq_some_iff.mp hq).1
  have hpk : pk < q.2.2.1.length := (List.getElem?_eq_some_iff.mp ht).1
  have hlk : 6 * l + pk < 384 := by omega
  have al20 : 20 ≤ kd M d ∧ kd M d < 40 := by rcases g2 with g2 | g2 <;> omega
  obtain ⟨i, hi, ei⟩ := srt_n kok.1
  obtain ⟨j, hj, ej⟩ := srt_n srt.1
  -- what the model has of it
  have hml : ∀ {m : Nat} {Mm : Mem}, MI m E R F W O T S Mm → PK m (6 * l + pk) Mm t := fun {m Mm} h => (h.2.2.2.2.2.2.1.2.2 l q hq).2.2.2.2.2 pk t ht
  have hmz : ∀ {m : Nat} {Mm : Mem} {w : Int64}, MI m E R F W O T S Mm → MI m E R F W O T S (sJ Mm 830 m w) := fun h => h.uz UZ.g830
  have no9 : ∀ {Mz : Mem}, cP Mz s ka → ¬ s.2.1 = 8 → ¬ s.2.1 = 11 → ∀ v, ex 150 6 [pR (some x), pR (some (ad l pk)), pR (some ka), pJ v] Mz = some (some (pI 0), Mz) := fun {Mz} h n8 n11 v => by
    rw [tX11_thrownByFilling]
    exact rd_i rfl h.1 (it_t (by rw [h.2.2.1]; exact n8) (rd_i rfl h.1 (it_f (by rw [h.2.2.1]; exact n11) rfl)))
  by_cases s8 : s.2.1 < 8
  · -- numbers
    have n8 : ¬ s.2.1 = 8 := fun z => by rw [z] at s8; exact absurd s8 (by decide)
    have n9 : ¬ s.2.1 = 9 := fun z => by rw [z] at s8; exact absurd s8 (by decide)
    have n10 : ¬ s.2.1 = 10 := fun z => by rw [z] at s8; exact absurd s8 (by decide)
    have n11 : ¬ s.2.1 = 11 := fun z => by rw [z] at s8; exact absurd s8 (by decide)
    have hj8 := lt8_n ej hj s8
    have hij : i = j ∨ WD i j := by
      unfold gsP at hgs
      by_cases he : t.2.1 = s.2.1
      · rw [ei, ej] at he
        exact Or.inl (nI_inj (by omega) (by omega) he)
      · rw [if_neg he, if_neg (fun z => n9 z.2), ei, ej, nI_clamp (by omega), nI_clamp (by omega)] at hgs
        exact Or.inr hgs
    have hi8 : i < 8 := by rcases hij with z | z <;> omega
    have t8 : t.2.1 < 8 := by rw [ei]; exact nI_lt (b := 8) hi8 (by decide)
    obtain ⟨v, w1, w2, w3⟩ := wid_both hi8 hij (by rw [← ei]; exact kok.2.1 t8)
    refine VB.same (c := 0) (v := v) hX hla aw ?_ (fun Mz _ _ hpz => no9 hpz n8 n11 v) (Or.inl rfl) (fun _ => ⟨fun _ => by rw [ej]; exact w3, fun z => absurd z n8, fun z => absurd z n9, fun z => absurd z n10, fun z => absurd z n11⟩) (fun m Mm hMm => ?_)
    · rw [tX11_valueNow]
      refine rd_i rfl p1 (it_f (by rw [p3]; exact n8) (it_f (by rw [p3]; exact n9) (it_f (by rw [p3]; exact n10) (it_f (by rw [p3]; exact n11) (rd_i rfl q1 (rd_i rfl p1 (rd_i rfl q1 ?_)))))))
      rw [q3, p3, q5 (Or.inl t8), ei, ej]
      exact clJ_i (w1 M) rfl
    · have hM5 := hmz (w := s.2.2.2) hMm
      obtain ⟨mB, -, mR, -, -, -, mL, -⟩ := id hM5
      have pk5 := hml hM5
      have hrl : r < R.length := (List.getElem?_eq_some_iff.mp hrc).1
      have hpl : p < rc.1.length := (List.getElem?_eq_some_iff.mp hs).1
      obtain ⟨⟨z1, z2, z3⟩, -⟩ := mR.2.2.1 r rc hrc
      have hM6 : MI m E R F W O T S (sJ (sJ Mm 830 m s.2.2.2) 830 m v) := hM5.uz UZ.g830
      refine ⟨sJ (sJ Mm 830 m s.2.2.2) 830 m v, m_comes_end hMm hM6 hrc hs hlk n11 ?_, (CU.rf.bJ (by omega)).bJ (by omega), hM6, AtH.rf.bJ.bJ, fun _ => by rw [gJ_sJ, up2_at]⟩
      rw [tX12_brings]
      refine rd_i rfl mB.k (ix_m (n := 6 * r + p) mB.a7 rfl (by omega) (by omega) (rd_i rfl mB.k (ix_m (n := 6 * l + pk) mB.a35 rfl (by omega) (by omega) (rd_i rfl mB.k (ix_m (n := 6 * l + pk) mB.a37 rfl (by omega) (by omega) ?_)))))
      rw [(z3 p s hs).2.1, pk5.2.1, pk5.2.2.2.1 (Or.inl t8)]
      refine it_t t8 ?_
      rw [tX12_brings_36]
      refine it_f (fun z => ge8.mp z t8) (it_f (fun z => ge8.mp z s8) ?_)
      rw [ei, ej]
      refine clI_i (m_goes hi8 hj8 _) ?_
      rw [if_pos hij]
      refine it_f (by decide) ?_
      rw [tX12_brings_63]
      refine it_f (by decide) (clJ_i (w2 _) ?_)
      rw [tX12_brings_83]
      refine rd_i rfl mB.k (bd_i (it_f (by decide) ?_))
      rw [tX12_brings_97]
  have gs8 : (8 : Int32) ≤ s.2.1 := ge8.mpr s8
  have o514 : gI M 514 ka = s.2.2.1 := p4 gs8
  -- both are alike, or a constant goes into a set
  have alike : (t.2.1 = s.2.1 ∧ (t.2.1 = 11 ∨ t.2.2.1 = s.2.2.1)) ∨ (t.2.1 = 8 ∧ s.2.1 = 9 ∧ t.2.2.1 = s.2.2.1) := by
    unfold gsP at hgs
    by_cases he : t.2.1 = s.2.1
    · rw [if_pos he] at hgs
      exact Or.inl ⟨he, hgs.resolve_left (by rw [he]; exact s8)⟩
    · rw [if_neg he] at hgs
      by_cases h89 : t.2.1 = 8 ∧ s.2.1 = 9
      · rw [if_pos h89] at hgs
        exact Or.inr ⟨h89.1, h89.2, hgs⟩
      · rw [if_neg h89] at hgs
        exfalso
        have g3 := hgs.2.2.1
        rw [ej, nI_clamp (by omega)] at g3
        exact s8 (by rw [ej]; exact nI_lt (b := 8) (by omega) (by decide))
  have gt8 : (8 : Int32) ≤ t.2.1 := by
    rcases alike with z | z
    · rw [z.1]; exact gs8
    · rw [z.1]; decide
  have head : ∀ {m : Nat} {Mm : Mem}, MI m E R F W O T S Mm → ex 219 10 [pR (some m), pI (nI (6 * r + p)), pI (nI (6 * l + pk))] (sJ Mm 830 m s.2.2.2) = rn PP 219 154 [some (pR (some m)), some (pI (nI (6 * r + p))), some (pI (nI (6 * l + pk))), some (pI s.2.1), some (pI t.2.1), some (pJ (aJ (sJ Mm 830 m s.2.2.2) (m + 37) (6 * l + pk))), none, none, none, none] [] (sJ Mm 830 m s.2.2.2) := fun h => m_brings_head (hmz h) hrc hs hq ht hgs gt8 gs8
  have hofs : ∀ {m : Nat} {Mm : Mem}, MI m E R F W O T S Mm → aI Mm (m + 8) (6 * r + p) = s.2.2.1 := fun h => ((h.2.2.1.2.2.1 r rc hrc).1.2.2 p s hs).2.2.1
  have hrl : r < R.length := (List.getElem?_eq_some_iff.mp hrc).1
  have hpl : ∀ {m : Nat} {Mm : Mem}, MI m E R F W O T S Mm → p < 6 := fun h => by
    have := (h.2.2.1.2.2.1 r rc hrc).1.1
    have := (List.getElem?_eq_some_iff.mp hs).1
    omega
  -- a constant that was kept: the model's way
  have const : ∀ {m : Nat} {Mm : Mem} (e : Nat) (qe : TE), MI m E R F W O T S Mm → t.2.1 = 8 → s.2.2.1 = nI e → E[e]? = some qe → ∃ c : Int32, ((t.2.2.2.1 < 0 ∧ c = -1) ∨ (¬ t.2.2.2.1 < 0 ∧ ∃ w, t.2.2.2.2.1 = [w] ∧ c = fndC qe.1 w 0)) ∧ ex 219 10 [pR (some m), pI (nI (6 * r + p)), pI (nI (6 * l + pk))] (sJ Mm 830 m s.2.2.2) = rn PP 219 191 [some (pR (some m)), none, none, some (pI s.2.1), none, some (pJ (aJ (sJ Mm 830 m s.2.2.2) (m + 37) (6 * l + pk))), none, none, none, none] [pI c] (sJ Mm 830 m s.2.2.2) ∧ (aJ (sJ Mm 830 m s.2.2.2) (m + 37) (6 * l + pk) < 0 ↔ t.2.2.2.1 < 0) := fun {m Mm} e qe hMm t8 hf hqe => by
    have hM5 := hmz (w := s.2.2.2) hMm
    have pk5 := hml hM5
    have mB := hM5.1
    have hp6 := hpl hMm
    have v5 := pk5.2.2.2.2.1 (Or.inl t8)
    rw [head hMm, tX12_brings_154]
    rcases kok.2.2.1 t8 with ⟨k1, k2⟩ | ⟨k1, k2⟩
    · refine ⟨-1, Or.inl ⟨k1, rfl⟩, it_f (not_not_intro t8) (it_f (fun z => ?_) rfl), v5⟩
      have := v5.mpr k1
      rw [cmp_ge0, I64_le] at z
      rw [I64_lt] at this
      omega
    · obtain ⟨w, hw⟩ : ∃ w, t.2.2.2.2.1 = [w] := List.length_eq_one_iff.mp k2
      refine ⟨fndC qe.1 w 0, Or.inr ⟨k1, w, hw, rfl⟩, it_f (not_not_intro t8) (it_t ?_ (rd_i rfl mB.k (ix_m (n := 6 * r + p) mB.a8 rfl (by omega) (by omega) (rd_i rfl mB.k (ix_m (n := 16 * (6 * l + pk)) mB.a38 (by rw [show (16 : Int32) = nI 16 from rfl, nI_mul]) (by omega) (by omega) (rd_i rfl mB.k ?_)))))), v5⟩
      · rw [cmp_ge0, I64_le]
        have h0 : ¬ aJ (sJ Mm 830 m s.2.2.2) (m + 37) (6 * l + pk) < 0 := fun z => k1 (v5.mp z)
        rw [I64_lt] at h0
        omega
      · have e38 : aJ (sJ Mm 830 m s.2.2.2) (m + 38) (16 * (6 * l + pk)) = w := pk5.2.2.2.2.2.2.2.1 0 w (by rw [hw]; rfl)
        rw [hofs hM5, hf, e38]
        exact clI_i (m_ordinal mB hM5.2.1 hqe w) rfl
  by_cases h8 : s.2.1 = 8
  · have t8 : t.2.1 = 8 := by
      rcases alike with z | z
      · rw [z.1]; exact h8
      · rw [h8] at z; exact absurd z.2.1 (by decide)
    have n9 : ¬ s.2.1 = 9 := by rw [h8]; decide
    have n10 : ¬ s.2.1 = 10 := by rw [h8]; decide
    have n11 : ¬ s.2.1 = 11 := by rw [h8]; decide
    obtain ⟨e, he, hf⟩ := srt.2.2.1 (Or.inl h8)
    obtain ⟨qe, hqe⟩ : ∃ q, E[e]? = some q := ⟨_, List.getElem?_eq_getElem he⟩
    obtain ⟨ae, c107, -, hce, -⟩ := c_enumAt hB hX.2.1 hqe
    have run : ∀ {v : Int64}, ex 151 4 [pR (some x), pR (some (ad l pk)), pI (nI e)] M = some (some (pJ v), M) → ex 149 3 [pR (some x), pR (some (ad l pk)), pR (some ka)] M = some (some (pJ v), M) := fun {v} h => by
      rw [tX11_valueNow]
      refine rd_i rfl p1 (it_t (p3.trans h8) (rd_i rfl p1 (rd_i rfl hB.k ?_)))
      rw [o514, hf]
      exact clJ_i h rfl
    rcases kok.2.2.1 t8 with ⟨k1, k2⟩ | ⟨k1, k2⟩
    · rw [k2] at g3
      refine VB.same (c := 0) (v := -1) hX hla aw (run ?_) (fun Mz _ hlz hpz => ?_) (Or.inl rfl) (fun _ => ⟨fun z => absurd z s8, fun _ => Or.inl rfl, fun z => absurd z n9, fun z => absurd z n10, fun z => absurd z n11⟩) (fun m Mm hMm => ?_)
      · rw [tX11_ordinalNow]
        exact rd_i rfl hB.k (clR_i c107 (it_f (fun z => nomatch z) (rd_i rfl q1 (al_i g1 al20 (it_f (not_not_intro (by rw [g3]; rfl)) rfl)))))
      · obtain ⟨-, y1, -, -, -, -, -, ⟨dz, w1, w2, w3, -⟩, -⟩ := hlz.q ha hq ht
        rw [k2] at w3
        rw [tX11_thrownByFilling]
        exact rd_i rfl hpz.1 (it_f (not_not_intro (by rw [hpz.2.2.1]; exact h8)) (rd_i rfl y1 (al_i w1 (by rcases w2 with w2 | w2 <;> omega) (it_t (by rw [w3]; decide) rfl))))
      · obtain ⟨c, hc, e219, v5⟩ := const e qe hMm t8 hf hqe
        rcases hc with ⟨-, hc⟩ | ⟨hc, -⟩
        · subst hc
          obtain ⟨M', e1, e2, e3, e4, e5⟩ := (m_br191 (so := s.2.1) (v := aJ (sJ Mm 830 m s.2.2.2) (m + 37) (6 * l + pk)) (c := -1) (hmz (w := s.2.2.2) hMm)).1 (Or.inl (v5.mpr k1))
          rw [if_pos h8] at e5
          exact ⟨M', m_comes_end hMm e3 hrc hs hlk n11 (e219.trans e1), (CU.rf.bJ (by omega)).tr e2, e3, AtH.rf.bJ.tr e4, fun _ => e5⟩
        · exact absurd k1 hc
    · obtain ⟨w, hw⟩ : ∃ w, t.2.2.2.2.1 = [w] := List.length_eq_one_iff.mp k2
      have k21 := held_k hB g2 g3 (by omega)
      have cls : ex 151 4 [pR (some x), pR (some (ad l pk)), pI (nI e)] M = some (some (pJ (fndC qe.1 w 0).toInt64), M) := by
        rw [tX11_ordinalNow]
        refine rd_i rfl hB.k (clR_i c107 (it_f (fun z => nomatch z) (rd_i rfl q1 (al_i g1 al20 (it_t (by rw [g3, k2]; decide) (rd_i rfl q1 (ix_i (n := 0) g1 (Or.inl k21) rfl (by omega) (by omega) (rd_i rfl hce.1 ?_))))))))
        rw [g5 0 w (by rw [hw]; rfl)]
        exact clI_i (c_ordinalOf hce w) rfl
      have t150 : ∀ Mz, XLa x Mz as ad T → cP Mz s ka → ex 150 6 [pR (some x), pR (some (ad l pk)), pR (some ka), pJ (fndC qe.1 w 0).toInt64] Mz = some (some (pI (if fndC qe.1 w 0 = -1 then 8 else 0)), Mz) := fun Mz hlz hpz => by
        obtain ⟨-, y1, -, -, -, -, -, ⟨dz, w1, w2, w3, -⟩, -⟩ := hlz.q ha hq ht
        rw [k2] at w3
        rw [tX11_thrownByFilling]
        refine rd_i rfl hpz.1 (it_f (not_not_intro (by rw [hpz.2.2.1]; exact h8)) (rd_i rfl y1 (al_i w1 (by rcases w2 with w2 | w2 <;> omega) (it_f (by rw [w3]; decide) ?_))))
        by_cases c : fndC qe.1 w 0 = -1
        · rw [if_pos c]
          exact it_f (not_not_intro (by rw [c]; decide)) rfl
        · rw [if_neg c]
          refine it_t (fun z => c ?_) rfl
          have z := cmp_eq0.mp z
          rcases fndC_n (nm := w) qe.1 0 with y | ⟨jj, -, y2, y3⟩
          · exact y
          · have := hE8 e qe hqe
            rw [y3, nI_l (by omega)] at z
            exact absurd z (lN_ne (by omega))
      by_cases c : fndC qe.1 w 0 = -1
      · refine VB.same (c := 8) (v := (fndC qe.1 w 0).toInt64) hX hla aw (run cls) (fun Mz _ hlz hpz => by rw [t150 Mz hlz hpz, if_pos c]) (Or.inr (Or.inr rfl)) (fun z => absurd z (by decide)) (fun m Mm hMm => ?_)
        obtain ⟨c', hc, e219, v5⟩ := const e qe hMm t8 hf hqe
        rcases hc with ⟨hc, -⟩ | ⟨-, w', hw', hc⟩
        · exact absurd hc k1
        · rw [hw] at hw'
          have hw' : w = w' := by injection hw'
          subst hw'
          obtain ⟨M', e1, e2, e3, e4, e5⟩ := (m_br191 (so := s.2.1) (v := aJ (sJ Mm 830 m s.2.2.2) (m + 37) (6 * l + pk)) (c := c') (hmz (w := s.2.2.2) hMm)).2 ⟨fun z => k1 (v5.mp z), hc.trans c⟩
          rw [if_pos h8] at e1
          have e3' : (if s.2.1 = 9 then lfo S else S) = S := if_neg n9
          rw [e3'] at e3
          exact ⟨M', m_comes_end hMm e3 hrc hs hlk n11 (e219.trans e1), (CU.rf.bJ (by omega)).tr e2, e3, AtH.rf.bJ.tr e4, fun z => absurd z (by decide)⟩
      · refine VB.same (c := 0) (v := (fndC qe.1 w 0).toInt64) hX hla aw (run cls) (fun Mz _ hlz hpz => by rw [t150 Mz hlz hpz, if_neg c]) (Or.inl rfl) (fun _ => ⟨fun z => absurd z s8, fun _ => ?_, fun z => absurd z n9, fun z => absurd z n10, fun z => absurd z n11⟩) (fun m Mm hMm => ?_)
        · rcases fndC_n (nm := w) qe.1 0 with y | ⟨jj, -, y2, y3⟩
          · exact absurd y c
          · have := hE8 e qe hqe
            exact Or.inr ⟨e, qe, jj, hf, hqe, by omega, by rw [y3, nI_l (by omega)]⟩
        · obtain ⟨c', hc, e219, v5⟩ := const e qe hMm t8 hf hqe
          rcases hc with ⟨hc, -⟩ | ⟨-, w', hw', hc⟩
          · exact absurd hc k1
          · rw [hw] at hw'
            have hw' : w = w' := by injection hw'
            subst hw'
            obtain ⟨M', e1, e2, e3, e4, e5⟩ := (m_br191 (so := s.2.1) (v := aJ (sJ Mm 830 m s.2.2.2) (m + 37) (6 * l + pk)) (c := c') (hmz (w := s.2.2.2) hMm)).1 (Or.inr (by rw [hc]; exact c))
            rw [if_pos h8, hc] at e5
            exact ⟨M', m_comes_end hMm e3 hrc hs hlk n11 (e219.trans e1), (CU.rf.bJ (by omega)).tr e2, e3, AtH.rf.bJ.tr e4, fun _ => e5⟩
  by_cases h9 : s.2.1 = 9
  · have n10 : ¬ s.2.1 = 10 := by rw [h9]; decide
    have n11 : ¬ s.2.1 = 11 := by rw [h9]; decide
    obtain ⟨e, he, hf⟩ := srt.2.2.1 (Or.inr h9)
    obtain ⟨qe, hqe⟩ : ∃ q, E[e]? = some q := ⟨_, List.getElem?_eq_getElem he⟩
    have h8' := hE8 e qe hqe
    obtain ⟨M1, e152, hX1, f1⟩ := c_setNow hX hqe cq
    refine ⟨0, (sfv qe.1 t.2.2.2.2.1 0 S).1, W, T, (sfv qe.1 t.2.2.2.2.1 0 S).2, jW, M1, 0, ⟨?_, hX1, hla.fr f1 (by decide) id ⟨fun _ _ _ => id, fun _ _ => id⟩, f1.mo (Nat.le_refl _) (fun k z => by omega) (fun _ z => z.elim) (fun _ => id) (fun _ z => z.elim)⟩, fun Mz _ _ hpz => no9 hpz h8 n11 _, ⟨aw_sfv _ _ _ aw, Or.inl rfl, fun _ => ⟨fun z => absurd z s8, fun z => absurd z h8, fun _ => ⟨e, qe, hf, hqe, sfv_lt h8' _ _ _ (Nat.two_pow_pos _)⟩, fun z => absurd z n10, fun z => absurd z n11⟩, fun _ _ h => h, shT.rf, rfl, by omega⟩, fun m Mm hMm => ?_⟩
    · rw [tX11_valueNow]
      refine rd_i rfl p1 (it_f (by rw [p3]; exact h8) (it_t (p3.trans h9) (rd_i rfl p1 (rd_i rfl hB.k ?_))))
      rw [o514, hf]
      exact clJ_i e152 rfl
    · have hM5 := hmz (w := s.2.2.2) hMm
      have hp6 := hpl hMm
      by_cases t9 : t.2.1 = 9
      · obtain ⟨M', r1, r2, r3, r4, r5⟩ := m_bringSet hM5 hqe hq ht
        refine ⟨M', m_comes_end hMm r3 hrc hs hlk n11 ?_, (CU.rf.bJ (by omega)).tr r2, r3, AtH.rf.bJ.tr r5, fun _ => r4⟩
        rw [head hMm, tX12_brings_154]
        refine it_t (by rw [t9]; decide) (it_f (not_not_intro t9) (rd_i rfl hM5.1.k (ix_m (n := 6 * r + p) hM5.1.a8 rfl (by omega) (by omega) (rd_i rfl hM5.1.k ?_))))
        rw [hofs hM5, hf]
        refine clV_i r1 ?_
        rw [tX12_brings_304]
        refine it_t (by rw [t9]; decide) ?_
        rw [tX12_brings_316]
      · have t8 : t.2.1 = 8 := by
          rcases alike with z | z
          · rw [h9] at z; exact absurd z.1 t9
          · exact z.1
        obtain ⟨c', hc, e219, v5⟩ := const e qe hMm t8 hf hqe
        have br := m_br191 (so := s.2.1) (v := aJ (sJ Mm 830 m s.2.2.2) (m + 37) (6 * l + pk)) (c := c') hM5
        have e8 : ∀ {α : Type} (u w : α), (if s.2.1 = 8 then u else w) = w := fun u w => if_neg h8
        rcases hc with ⟨k1, hc⟩ | ⟨k1, w, hw, hc⟩
        · have hw : t.2.2.2.2.1 = [] := by
            rcases kok.2.2.1 t8 with ⟨-, k2⟩ | ⟨k2, -⟩
            · exact k2
            · exact absurd k1 k2
          rw [hw]
          obtain ⟨M', e1, e2, e3, e4, e5⟩ := br.1 (Or.inl (v5.mpr k1))
          rw [e8, if_pos hc] at e5
          exact ⟨M', m_comes_end hMm e3 hrc hs hlk n11 (e219.trans e1), (CU.rf.bJ (by omega)).tr e2, e3, AtH.rf.bJ.tr e4, fun _ => e5⟩
        · rw [hw]
          by_cases c : fndC qe.1 w 0 = -1
          · have es : sfv qe.1 [w] 0 S = (0, lfo S) := by rw [sfv, if_pos c]; rfl
            rw [es]
            obtain ⟨M', e1, e2, e3, e4, e5⟩ := br.2 ⟨fun z => k1 (v5.mp z), hc.trans c⟩
            have e3' : (if s.2.1 = 9 then lfo S else S) = lfo S := if_pos h9
            rw [e3'] at e3
            rw [e8] at e1 e5
            exact ⟨M', m_comes_end hMm e3 hrc hs hlk n11 (e219.trans e1), (CU.rf.bJ (by omega)).tr e2, e3, AtH.rf.bJ.tr e4, fun _ => e5⟩
          · have es : sfv qe.1 [w] 0 S = ((1 : Int64) <<< ((fndC qe.1 w 0).toInt64 &&& 63), S) := by rw [sfv, if_neg c, or0]; rfl
            rw [es]
            obtain ⟨M', e1, e2, e3, e4, e5⟩ := br.1 (Or.inr (by rw [hc]; exact c))
            rw [e8, if_neg (by rw [hc]; exact c), hc] at e5
            exact ⟨M', m_comes_end hMm e3 hrc hs hlk n11 (e219.trans e1), (CU.rf.bJ (by omega)).tr e2, e3, AtH.rf.bJ.tr e4, fun _ => e5⟩
  have ts : t.2.1 = s.2.1 := by
    rcases alike with z | z
    · exact z.1
    · exact absurd z.2.1 h9
  by_cases h10 : s.2.1 = 10
  · have n11 : ¬ s.2.1 = 11 := by rw [h10]; decide
    have t10 : t.2.1 = 10 := ts.trans h10
    obtain ⟨i6, -⟩ := q6 t10
    have m154 : ∀ {m : Nat} {Mm M' : Mem}, MI m E R F W O T S Mm → ex 221 3 [pR (some m), pI (nI (6 * l + pk))] (sJ Mm 830 m s.2.2.2) = some (none, M') → ex 219 10 [pR (some m), pI (nI (6 * r + p)), pI (nI (6 * l + pk))] (sJ Mm 830 m s.2.2.2) = some (some (pI 0), M') := fun {m Mm M'} hMm h => by
      rw [head hMm, tX12_brings_154]
      refine it_t (by rw [t10]; decide) (it_t (by rw [t10]; decide) ?_)
      rw [tX12_brings_304]
      refine it_f (not_not_intro t10) (rd_i rfl (hmz (w := s.2.2.2) hMm).1.k (clV_i h ?_))
      rw [tX12_brings_316]
    have run : ∀ {v : Int64} {M1 : Mem}, ex 153 2 [pR (some x), pR (some (ad l pk))] M = some (some (pJ v), M1) → ex 149 3 [pR (some x), pR (some (ad l pk)), pR (some ka)] M = some (some (pJ v), M1) := fun {v M1} h => by
      rw [tX11_valueNow]
      exact rd_i rfl p1 (it_f (by rw [p3]; exact h8) (it_f (by rw [p3]; exact h9) (it_t (p3.trans h10) (rd_i rfl hB.k (clJ_i h rfl)))))
    by_cases v0 : t.2.2.2.1 < 0
    · refine VB.same (c := 0) (v := -1) hX hla aw (run ?_) (fun Mz _ _ hpz => no9 hpz h8 n11 _) (Or.inl rfl) (fun _ => ⟨fun z => absurd z s8, fun z => absurd z h8, fun z => absurd z h9, fun _ => Or.inl rfl, fun z => absurd z n11⟩) (fun m Mm hMm => ?_)
      · rw [tX11_rowNow]
        exact rd_i rfl q1 (it_f (not_not_intro (cmp_eq0.mpr (i6.mpr v0))) rfl)
      · have hM5 := hmz (w := s.2.2.2) hMm
        have hM6 := hmz (w := (-1 : Int64)) hM5
        have pk6 := hml hM6
        refine ⟨_, m_comes_end hMm hM6 hrc hs hlk n11 (m154 hMm ?_), (CU.rf.bJ (by omega)).bJ (by omega), hM6, AtH.rf.bJ.bJ, fun _ => by rw [gJ_sJ, up2_at]⟩
        rw [tX12_bringRow]
        refine rd_i rfl hM5.1.k (bd_i (rd_i rfl hM6.1.k (ix_m (n := 6 * l + pk) hM6.1.a37 rfl (by omega) (by omega) (it_f (fun z => ?_) rfl))))
        have := (pk6.2.2.2.2.1 (Or.inr t10)).mpr v0
        rw [cmp_ge0, I64_le] at z
        rw [I64_lt] at this
        omega
    · have ge0 : ∀ {m : Nat} {Mm : Mem}, MI m E R F W O T S Mm → 0 ≤ lg_cmp (aJ Mm (m + 37) (6 * l + pk)) (0 : Int64) := fun {m Mm} h => by
        have := (hml h).2.2.2.2.1 (Or.inr t10)
        have z : ¬ aJ Mm (m + 37) (6 * l + pk) < 0 := fun z => v0 (this.mp z)
        rw [cmp_ge0, I64_le]
        rw [I64_lt] at z
        omega
      by_cases row : t.2.2.2.2.2 = -1
      · obtain ⟨g, hg, hof⟩ : ∃ g, g < 8 ∧ t.2.2.1 = nI g := by
          rcases kok.2.2.2.1 t10 with z | z
          · exact absurd z v0
          · exact z
        obtain ⟨M1, e153, hX1, hla1, f1⟩ := c_rowNew hX hla ha hq ht t10 v0 row (by omega)
        have eW : (W ++ [(t.2.2.1, t.2.2.2.2.1)]).length = W.length + 1 := by rw [List.length_append]; rfl
        refine ⟨0, lN W.length, _, _, S, jW - 1, M1, _, ⟨run e153, hX1, hla1, f1⟩, fun Mz _ _ hpz => no9 hpz h8 n11 _, ⟨aw_row aw hq ht row hg hof hW, Or.inl rfl, fun _ => ⟨fun z => absurd z s8, fun z => absurd z h8, fun z => absurd z h9, fun _ => Or.inr ⟨W.length, (t.2.2.1, t.2.2.2.2.1), by rw [List.getElem?_append_right (Nat.le_refl _), Nat.sub_self]; rfl, rfl, trivial⟩, fun z => absurd z n11⟩, fun _ _ h => app_old h, ⟨List.length_set, fun l' q' hq' => ?_⟩, cntL_row hq, ?_⟩, fun m Mm hMm => ?_⟩
        · rw [List.getElem?_set]
          by_cases c : l = l'
          · subst c
            rw [hq] at hq'
            cases hq'
            rw [if_pos rfl, if_pos hl]
            exact ⟨_, rfl, rfl, rfl⟩
          · rw [if_neg c]
            exact ⟨q', hq', rfl, rfl⟩
        · rw [eW]
          split <;> omega
        · obtain ⟨M', r1, r2, r3, r4, r5⟩ := m_rowNew (hmz (w := s.2.2.2) hMm) hq ht t10 v0 row hg hof hW
          exact ⟨M', m_comes_end hMm r3 hrc hs hlk n11 (m154 hMm r1), (CU.rf.bJ (by omega)).tr r2, r3, AtH.rf.bJ.tr r5, fun _ => r4⟩
      · obtain ⟨rr, hrr, er⟩ : ∃ rr, rr < W.length ∧ t.2.2.2.2.2 = nI rr := by
          rcases kok.2.2.2.2.2.2 with z | z
          · exact absurd z row
          · exact z
        refine VB.same (c := 0) (v := t.2.2.2.2.2.toInt64) hX hla aw (run ?_) (fun Mz _ _ hpz => no9 hpz h8 n11 _) (Or.inl rfl) (fun _ => ⟨fun z => absurd z s8, fun z => absurd z h8, fun z => absurd z h9, fun _ => Or.inr ⟨rr, W[rr], List.getElem?_eq_getElem hrr, by rw [er, nI_l (by omega)], trivial⟩, fun z => absurd z n11⟩) (fun m Mm hMm => ?_)
        · rw [tX11_rowNow]
          refine rd_i rfl q1 (it_t (fun z => v0 (i6.mp (cmp_eq0.mp z))) (rd_i rfl q1 (it_t (by rw [q8]; exact row) (rd_i rfl q1 ?_))))
          rw [q8]
        · have hM5 := hmz (w := s.2.2.2) hMm
          have hM6 := hmz (w := (-1 : Int64)) hM5
          have hM7 := hmz (w := t.2.2.2.2.2.toInt64) hM6
          have pk6 := hml hM6
          refine ⟨_, m_comes_end hMm hM7 hrc hs hlk n11 (m154 hMm ?_), ((CU.rf.bJ (by omega)).bJ (by omega)).bJ (by omega), hM7, AtH.rf.bJ.bJ.bJ, fun _ => by rw [gJ_sJ, up2_at]⟩
          rw [tX12_bringRow]
          refine rd_i rfl hM5.1.k (bd_i (rd_i rfl hM6.1.k (ix_m (n := 6 * l + pk) hM6.1.a37 rfl (by omega) (by omega) (it_t (ge0 hM6) (rd_i rfl hM6.1.k (ix_m (n := 6 * l + pk) hM6.1.a41 rfl (by omega) (by omega) (it_t (by rw [pk6.2.2.2.2.2.2.2.2]; exact row) (rd_i rfl hM6.1.k (ix_m (n := 6 * l + pk) hM6.1.a41 rfl (by omega) (by omega) (rd_i rfl hM6.1.k ?_))))))))))
          rw [pk6.2.2.2.2.2.2.2.2]
          exact bd_i rfl
  -- objects
  have h11 : s.2.1 = 11 := by
    have hj' : ¬ j < 8 := fun z => s8 (by rw [ej]; exact nI_lt (b := 8) z (by decide))
    have j8 : j ≠ 8 := fun z => h8 (by rw [ej, z]; rfl)
    have j9 : j ≠ 9 := fun z => h9 (by rw [ej, z]; rfl)
    have j10 : j ≠ 10 := fun z => h10 (by rw [ej, z]; rfl)
    rw [ej, show j = 11 by omega]
    rfl
  have t11 : t.2.1 = 11 := ts.trans h11
  obtain ⟨f, hf3, hf⟩ := srt.2.2.2.2 h11
  obtain ⟨fq, hfq⟩ : ∃ q, F[f]? = some q := ⟨_, List.getElem?_eq_getElem hf3⟩
  have v323 := q5 (Or.inr t11)
  have m154 : ∀ {m : Nat} {Mm : Mem}, MI m E R F W O T S Mm → ex 219 10 [pR (some m), pI (nI (6 * r + p)), pI (nI (6 * l + pk))] (sJ Mm 830 m s.2.2.2) = some (some (pI 0), sJ Mm 830 m s.2.2.2) := fun {m Mm} hMm => by
    rw [head hMm, tX12_brings_154]
    refine it_t (by rw [t11]; decide) (it_t (by rw [t11]; decide) ?_)
    rw [tX12_brings_304]
    refine it_t (by rw [t11]; decide) ?_
    rw [tX12_brings_316]
  have run : ∀ {v : Int64}, ex 154 3 [pR (some x), pR (some (ad l pk))] M = some (some (pJ v), M) → ex 149 3 [pR (some x), pR (some (ad l pk)), pR (some ka)] M = some (some (pJ v), M) := fun {v} h => by
    rw [tX11_valueNow]
    exact rd_i rfl p1 (it_f (by rw [p3]; exact h8) (it_f (by rw [p3]; exact h9) (it_f (by rw [p3]; exact h10) (it_t (p3.trans h11) (rd_i rfl hB.k (clJ_i h rfl))))))
  have s7 : ∀ {m : Nat} {Mm : Mem}, MI m E R F W O T S Mm → aI Mm (m + 7) (6 * r + p) = 11 := fun h => ((h.2.2.1.2.2.1 r rc hrc).1.2.2 p s hs).2.1.trans h11
  rcases kok.2.2.2.2.1 t11 with hm | ⟨l', hl', hm⟩
  · refine VB.same (c := 0) (v := -1) hX hla aw (run ?_) (fun Mz hXz _ hpz => ?_) (Or.inl rfl) (fun _ => ⟨fun z => absurd z s8, fun z => absurd z h8, fun z => absurd z h9, fun z => absurd z h10, fun _ => Or.inl rfl⟩) (fun m Mm hMm => ?_)
    · rw [tX11_objectNow]
      refine rd_i rfl q1 (rd_i rfl hB.k ?_)
      rw [v323, hm]
      exact clR_i (c_lineAt_no hB hla (Or.inl (by decide))) (it_t rfl rfl)
    · rw [tX11_thrownByFilling]
      exact rd_i rfl hpz.1 (it_t (by rw [hpz.2.2.1]; exact h8) (rd_i rfl hpz.1 (it_t (by rw [hpz.2.2.1]; exact h11) (rd_i rfl hXz.1.1.k (clR_i (c_objAt_no hXz.1.1 hXz.2.2.2.2.2.1 (Or.inl (by decide))) (it_t rfl rfl))))))
    · have hM5 := hmz (w := s.2.2.2) hMm
      have hM6 := hmz (w := (-1 : Int64)) hM5
      have pk5 := hml hM5
      have hp6 := hpl hMm
      refine ⟨_, m_comes_head hMm hrc hs hlk (clI_i (m154 hMm) (it_f (not_not_intro rfl) (rd_i rfl hM5.1.k (ix_m (n := 6 * r + p) hM5.1.a7 rfl (by omega) (by omega) (it_t (s7 hM5) (rd_i rfl hM5.1.k (ix_m (n := 6 * l + pk) hM5.1.a37 rfl (by omega) (by omega) (it_f ?_ (rd_i rfl hM5.1.k (bd_i (rd_i rfl hM6.1.k (it_t ?_ rfl)))))))))))), (CU.rf.bJ (by omega)).bJ (by omega), hM6, AtH.rf.bJ.bJ, fun _ => by rw [gJ_sJ, up2_at]⟩
      · rw [pk5.2.2.2.1 (Or.inr t11), hm]; decide
      · rw [gJ_sJ, up2_at]; decide
  · obtain ⟨q', hq'⟩ : ∃ q', T[l']? = some q' := ⟨_, List.getElem?_eq_getElem (by omega)⟩
    have ld := hah h11 l' q' hm hq'
    obtain ⟨o', ho', eo⟩ : ∃ o, o < O.length ∧ q'.2.2.2 = nI o := by
      rcases (aw.2.2.2.2.1 l' q' hq').2.1 with z | z
      · exact absurd z ld
      · exact z
    obtain ⟨u, hu⟩ : ∃ u, O[o']? = some u := ⟨_, List.getElem?_eq_getElem ho'⟩
    have hu6 := aw.2.2.2.1.r6 hR6 o' u hu
    obtain ⟨a', ha', c112, -, cl'⟩ := c_lineAt hB hla hq'
    have f6 := aw.2.1.len6 hR6 hF3 f fq hfq
    have cls : ex 154 3 [pR (some x), pR (some (ad l pk))] M = some (some (pJ (lN o')), M) := by
      rw [tX11_objectNow]
      refine rd_i rfl q1 (rd_i rfl hB.k ?_)
      rw [v323, hm]
      refine clR_i c112 (it_f (fun z => nomatch z) (rd_i rfl cl'.1 ?_))
      rw [cl'.2.2.2.1, eo, nI_l (by omega)]
    have t150 : ∀ Mz, XI x E R F W O T S jW jO Mz → cP Mz s ka → ex 150 6 [pR (some x), pR (some (ad l pk)), pR (some ka), pJ (lN o')] Mz = some (some (pI (if nI u.1 ∈ fq.2 then 0 else 6)), Mz) := fun Mz hXz hpz => by
      obtain ⟨ko, c111, -, co⟩ := c_objAt hXz.1.1 hXz.2.2.2.2.2.1 hu
      rw [tX11_thrownByFilling]
      refine rd_i rfl hpz.1 (it_t (by rw [hpz.2.2.1]; exact h8) (rd_i rfl hpz.1 (it_t (by rw [hpz.2.2.1]; exact h11) (rd_i rfl hXz.1.1.k (clR_i c111 (it_f (fun z => nomatch z) (rd_i rfl hpz.1 (rd_i rfl hXz.1.1.k ?_))))))))
      rw [hpz.2.2.2.1 gs8, hf]
      refine clI_i (c_isOfFam hXz.1.1 hXz.2.2.2.1 hfq co f6) ?_
      by_cases c : nI u.1 ∈ fq.2
      · rw [if_pos c, if_pos c]
        exact it_f (by decide) rfl
      · rw [if_neg c, if_neg c]
        exact it_t rfl rfl
    refine VB.same (c := if nI u.1 ∈ fq.2 then 0 else 6) (v := lN o') hX hla aw (run cls) (fun Mz hXz _ hpz => t150 Mz hXz hpz) (by split; exact Or.inl rfl; exact Or.inr (Or.inl rfl)) (fun z => ⟨fun z => absurd z s8, fun z => absurd z h8, fun z => absurd z h9, fun z => absurd z h10, fun _ => Or.inr ⟨o', u, f, fq, ho', hu, rfl, hf, hfq, ?_⟩⟩) (fun m Mm hMm => ?_)
    · by_cases c : nI u.1 ∈ fq.2
      · exact c
      · rw [if_neg c] at z
        exact absurd z (by decide)
    · have hM5 := hmz (w := s.2.2.2) hMm
      have hM6 := hmz (w := lN o') hM5
      have pk5 := hml hM5
      have hp6 := hpl hMm
      have h40 := (hM5.2.2.2.2.2.2.1.2.2 l' q' hq').2.2.2.2.1
      have r25 := (hM6.2.2.2.2.2.1.2.2 o' u hu).2.1
      obtain ⟨M7, e174, cu7, hM7, at7, g7⟩ := m_isOfFam2 (r := u.1) hM6 aw.2.1 hfq
      have e830 : gJ (sJ (sJ Mm 830 m s.2.2.2) 830 m (lN o')) 830 m = lN o' := by rw [gJ_sJ, up2_at]
      refine ⟨M7, m_comes_head hMm hrc hs hlk (clI_i (m154 hMm) (it_f (not_not_intro rfl) (rd_i rfl hM5.1.k (ix_m (n := 6 * r + p) hM5.1.a7 rfl (by omega) (by omega) (it_t (s7 hM5) (rd_i rfl hM5.1.k (ix_m (n := 6 * l + pk) hM5.1.a37 rfl (by omega) (by omega) (it_t ?_ (rd_i rfl hM5.1.k (rd_i rfl hM5.1.k (ix_m (n := 6 * l + pk) hM5.1.a37 rfl (by omega) (by omega) (ix_m (n := l') hM5.1.a40 ?_ (by omega) (by omega) (rd_i rfl hM5.1.k ?_))))))))))))), ((CU.rf.bJ (by omega)).bJ (by omega)).tr cu7, hM7, AtH.rf.bJ.bJ.tr at7, fun _ => g7.trans e830⟩
      · rw [pk5.2.2.2.1 (Or.inr t11), hm, cmp_ge0, I64_le, lN_toInt (by omega), show (0 : Int64).toInt = 0 from rfl]
        omega
      · rw [pk5.2.2.2.1 (Or.inr t11), hm, lN_i]
      · rw [h40, eo, nI_l (by omega)]
        refine bd_i (rd_i rfl hM6.1.k (it_f ?_ (rd_i rfl hM6.1.k (rd_i rfl hM6.1.k (ix_m (n := o') hM6.1.a25 ?_ (by omega) (by omega) (rd_i rfl hM6.1.k (ix_m (n := 6 * r + p) hM6.1.a8 rfl (by omega) (by omega) (rd_i rfl hM6.1.k ?_))))))))
        · rw [e830]; exact fun z => lN_nn (by omega) (cmp_lt0.mp z)
        · rw [e830, lN_i]
        · rw [r25, hofs hM6, hf]
          refine clI_i e174 ?_
          by_cases c : nI u.1 ∈ fq.2
          · rw [if_pos c, if_pos c]
            exact it_t (by decide) rfl
          · rw [if_neg c, if_neg c]
            exact it_f (not_not_intro rfl) rfl
end OPS
