/-! LOADING: constants and sets -/
section OPS
variable {x : Nat} {E E' : List TE} {R R' : List TR} {F F' : List TF} {W W' : List TW} {O O' : List TO} {T T' : List TL} {S S' : TS} {jW jO jW' jO' n : Nat} {M M' M1 : Mem}
theorem fndC_n {nm : Int64} : ∀ (l : List TC) (i : Nat), fndC l nm i = -1 ∨ ∃ j, i ≤ j ∧ j < i + l.length ∧ fndC l nm i = nI j := by
  intro l
  induction l with
  | nil => intro i; exact Or.inl rfl
  | cons q l ih =>
    intro i
    rw [fndC]
    by_cases h : q.1 = nm
    · rw [if_pos h]
      exact Or.inr ⟨i, Nat.le_refl _, by rw [List.length_cons]; omega, rfl⟩
    · rw [if_neg h]
      rcases ih (i + 1) with z | ⟨j, z1, z2, z3⟩
      · exact Or.inl z
      · exact Or.inr ⟨j, by omega, by rw [List.length_cons]; omega, z3⟩
/-- one more is left out -/
def lfo (S : TS) : TS := (S.1, S.2.1, S.2.2.1, S.2.2.2.1, S.2.2.2.2.1, S.2.2.2.2.2.1, S.2.2.2.2.2.2.1 + 1, S.2.2.2.2.2.2.2)
/-- a set out of names -/
def sfv (cs : List TC) : List Int64 → Int64 → TS → Int64 × TS
  | [], b, S => (b, S)
  | w :: ws, b, S => if fndC cs w 0 = -1 then sfv cs ws b (lfo S) else sfv cs ws (b ||| ((1 : Int64) <<< ((fndC cs w 0).toInt64 &&& 63))) S
theorem aw_lfo (aw : AW E R F W O T S jW jO) : AW E R F W O T (lfo S) jW jO := by
  obtain ⟨a1, a2, a3, a4, a5, b1, b2, b3, b4, b5, b6, b7, b8, b9, b10⟩ := aw
  exact ⟨a1, a2, a3, a4, a5, b1, b2, b3, b4, b5, b6, b7, b8, b9, b10⟩
theorem aw_sfv {cs : List TC} : ∀ (ws : List Int64) (b : Int64) (S : TS), AW E R F W O T S jW jO → AW E R F W O T (sfv cs ws b S).2 jW jO := by
  intro ws
  induction ws with
  | nil => intro b S aw; exact aw
  | cons w ws ih =>
    intro b S aw
    rw [sfv]
    split
    · exact ih _ _ (aw_lfo aw)
    · exact ih _ _ aw
theorem bit_tab : ∀ j, j < 8 → ((1 : Int64) <<< ((nI j).toInt64 &&& 63)).toUInt64.toNat = 2 ^ j := by decide +kernel
theorem sfv_lt {cs : List TC} (h8 : cs.length ≤ 8) : ∀ (ws : List Int64) (b : Int64) (S : TS), b.toUInt64.toNat < 2 ^ cs.length → (sfv cs ws b S).1.toUInt64.toNat < 2 ^ cs.length := by
  intro ws
  induction ws with
  | nil => intro b S h; exact h
  | cons w ws ih =>
    intro b S h
    rw [sfv]
    by_cases c : fndC cs w 0 = -1
    · rw [if_pos c]
      exact ih _ _ h
    · rw [if_neg c]
      refine ih _ _ ?_
      rcases fndC_n (nm := w) cs 0 with z | ⟨j, -, z2, z3⟩
      · exact absurd z c
      · rw [z3]
        show N64 (b ||| _) < _
        rw [N64_or]
        refine Nat.or_lt_two_pow h ?_
        show ((1 : Int64) <<< ((nI j).toInt64 &&& 63)).toUInt64.toNat < _
        rw [bit_tab j (by omega)]
        exact Nat.pow_lt_pow_right (by omega) (by omega)
theorem XS.s722 {S : TS} (h : XS x M S) : XS x (sI M 722 x (S.2.2.2.2.2.2.1 + 1)) (lfo S) := by
  obtain ⟨s1, s2, s3, s4, s5, s6, s7, s8, s9⟩ := h
  refine ⟨?_, ?_, ?_, s4, s5, s6, ?_, ?_, ?_⟩
  · rw [gI_sI, up2_ne (by omega)]; exact s1
  · rw [gI_sI, up2_ne (by omega)]; exact s2
  · rw [gI_sI, up2_ne (by omega)]; exact s3
  · rw [gI_sI, up2_ne (by omega)]; exact s7
  · rw [gI_sI, up2_at]; rfl
  · rw [gI_sI, up2_ne (by omega)]; exact s9
theorem MI.s828 {m : Nat} {v : Int32} (h : MI m E R F W O T S M) (S' : TS) (hS : S' = (S.1, S.2.1, S.2.2.1, S.2.2.2.1, S.2.2.2.2.1, S.2.2.2.2.2.1, v, S.2.2.2.2.2.2.2)) : MI m E R F W O T S' (sI M 828 m v) := by
  subst hS
  obtain ⟨s1, s2, s3, s4, s5, s6, s7, s8⟩ := h.2.2.2.2.2.2.2
  refine h.us (US.rf.bI (by decide)) ⟨?_, ?_, ?_, s4, s5, ⟨?_, ?_, ?_, ?_, ?_⟩, ?_, ?_⟩
  · rw [gI_sI, up2_ne (by omega)]; exact s1
  · rw [gI_sI, up2_ne (by omega)]; exact s2
  · rw [gI_sI, up2_ne (by omega)]; exact s3
  · rw [gI_sI, up2_ne (by omega)]; exact s6.1
  · rw [gI_sI, up2_ne (by omega)]; exact s6.2.1
  · rw [gI_sI, up2_ne (by omega)]; exact s6.2.2.1
  · rw [gI_sI, up2_ne (by omega)]; exact s6.2.2.2.1
  · rw [gI_sI, up2_ne (by omega)]; exact s6.2.2.2.2
  · rw [gI_sI, up2_ne (by omega)]; exact s7
  · rw [gI_sI, up2_at]
theorem c_setNow {e kq : Nat} {qe : TE} {t : TQ} (hX : XI x E R F W O T S jW jO M) (hqe : E[e]? = some qe) (hq : cQ x M t kq) : ∃ M', ex 152 8 [pR (some x), pR (some kq), pI (nI e)] M = some (some (pJ (sfv qe.1 t.2.2.2.2.1 0 S).1), M') ∧ XI x E R F W O T (sfv qe.1 t.2.2.2.2.1 0 S).2 jW jO M' ∧ Fr x (fun k => k = 722) No No No 0 M M' := by
  obtain ⟨ae, c107, hxa, hc, -⟩ := c_enumAt hX.1.1 hX.2.1 hqe
  have key : ∀ (n i : Nat) (b : Int64) (S : TS) (M : Mem), n + i = t.2.2.2.2.1.length → XI x E R F W O T S jW jO M → cQ x M t kq → cE x M qe ae → ∃ M', rn PP 152 12 [some (pR (some x)), some (pR (some kq)), none, some (pR (some ae)), some (pJ b), none, some (pI (nI i)), none] [] M = some (some (pJ (sfv qe.1 (t.2.2.2.2.1.drop i) b S).1), M') ∧ XI x E R F W O T (sfv qe.1 (t.2.2.2.2.1.drop i) b S).2 jW jO M' ∧ Fr x (fun k => k = 722) No No No 0 M M' := by
    intro n
    induction n with
    | zero =>
      intro i b S M hi hX hq hc
      obtain ⟨q1, q2, q3, q4, q5, q6, ⟨d, g1, g2, g3, g4, g5⟩, q8⟩ := id hq
      rw [List.drop_of_length_le (show t.2.2.2.2.1.length ≤ i by omega)]
      refine ⟨M, ?_, hX, Fr.rf hX.1.2.1 hX.1.2.2⟩
      rw [tX11_setNow_12]
      exact it_f (fun z => nomatch z) (rd_i rfl q1 (al_i g1 (by rcases g2 with g2 | g2 <;> omega) (it_t (by rw [g3]; exact nI_le (by omega) (by omega)) rfl)))
    | succ n ih =>
      intro i b S M hi hX hq hc
      obtain ⟨⟨hB, hv, hL⟩, -, -, -, -, -, -, hS⟩ := id hX
      obtain ⟨q1, q2, q3, q4, q5, q6, ⟨d, g1, g2, g3, g4, g5⟩, q8⟩ := id hq
      have k21 := held_k hB g2 g3 (by omega)
      obtain ⟨w, hw, hdw⟩ := drop_get (l := t.2.2.2.2.1) (i := i) (by omega)
      have e47 := c_ordinalOf hc w
      rw [hdw, sfv]
      have pre : ∀ {rr : Option Rt}, (if ¬ fndC qe.1 w 0 = (-1) then rn PP 152 12 [some (pR (some x)), some (pR (some kq)), none, some (pR (some ae)), some (pJ (b ||| ((1 : Int64) <<< ((fndC qe.1 w 0).toInt64 &&& 63)))), none, some (pI (nI i + 1)), none] [] M else rd (some x) 11 M fun a9 => rd (some x) 11 M fun a10 => bd (sI M 722 a10 (gI M 722 a9 + 1)) fun M11 => rn PP 152 12 [some (pR (some x)), some (pR (some kq)), none, some (pR (some ae)), some (pJ b), none, some (pI (nI i + 1)), none] [] M11) = rr → rn PP 152 12 [some (pR (some x)), some (pR (some kq)), none, some (pR (some ae)), some (pJ b), none, some (pI (nI i)), none] [] M = rr := fun {rr} hr => by
        rw [tX11_setNow_12]
        refine it_f (fun z => nomatch z) (rd_i rfl q1 (al_i g1 (by omega) (it_f (by rw [g3]; exact nI_ge (by omega) (by omega)) (rd_i rfl q1 (ix_i (n := i) g1 (Or.inl k21) rfl (by omega) (by omega) (rd_i rfl hc.1 ?_))))))
        rw [g5 i w hw]
        exact clI_i e47 hr
      by_cases c : fndC qe.1 w 0 = -1
      · rw [if_pos c]
        have f1 : Fr x (fun k => k = 722) No No No 0 M (sI M 722 x (S.2.2.2.2.2.2.1 + 1)) := (Fr.rf hv hL).bI (Or.inl ⟨by omega, rfl⟩)
        have hX1 : XI x E R F W O T (lfo S) jW jO (sI M 722 x (S.2.2.2.2.2.2.1 + 1)) := hX.frS f1 (fun k q => by omega) (fun _ q => q.elim) (fun _ q => q.elim) hS.s722
        obtain ⟨M', e1, e2, e3⟩ := ih (i + 1) b (lfo S) _ (by omega) hX1 (hq.fr f1 (by decide) ⟨id, fun _ _ => id⟩) (hc.fr f1 (by decide) id)
        refine ⟨M', pre (it_f (not_not_intro c) (rd_i rfl hB.k (rd_i rfl hB.k ?_))), e2, f1.tr e3⟩
        rw [hS.2.2.2.2.2.2.2.1, nI_1]
        exact bd_i e1
      · rw [if_neg c]
        obtain ⟨M', e1, e2, e3⟩ := ih (i + 1) (b ||| ((1 : Int64) <<< ((fndC qe.1 w 0).toInt64 &&& 63))) S M (by omega) hX hq hc
        refine ⟨M', pre (it_t c ?_), e2, e3⟩
        rw [nI_1]
        exact e1
  obtain ⟨M', e1, e2, e3⟩ := key t.2.2.2.2.1.length 0 0 S M (by omega) hX hq hc
  rw [List.drop_zero] at e1 e2
  refine ⟨M', ?_, e2, e3⟩
  rw [tX11_setNow]
  exact rd_i rfl hX.1.1.k (clR_i c107 e1)
/-- the model's own long -/
theorem UZ.g830 {m : Nat} {v : Int64} : UZ m M (sJ M 830 m v) := UZ.rf.bJ
theorem m_bringSet {m e l pk : Nat} {qe : TE} {q : TL} {t : TQ} (hM : MI m E R F W O T S M) (hqe : E[e]? = some qe) (hq : T[l]? = some q) (ht : q.2.2.1[pk]? = some t) : ∃ M', ex 220 5 [pR (some m), pI (nI e), pI (nI (6 * l + pk))] M = some (none, M') ∧ CU m M M' ∧ MI m E R F W O T (sfv qe.1 t.2.2.2.2.1 0 S).2 M' ∧ gJ M' 830 m = (sfv qe.1 t.2.2.2.2.1 0 S).1 ∧ AtH m M M' := by
  have hl : l < T.length := (List.getElem?_eq_some_iff.mp hq).1
  have hpk : pk < q.2.2.1.length := (List.getElem?_eq_some_iff.mp ht).1
  have key : ∀ (n i : Nat) (b : Int64) (S : TS) (M : Mem), n + i = t.2.2.2.2.1.length → MI m E R F W O T S M → gJ M 830 m = b → ∃ M', rn PP 220 7 [some (pR (some m)), some (pI (nI e)), some (pI (nI (6 * l + pk))), some (pI (nI i)), none] [] M = some (none, M') ∧ CU m M M' ∧ MI m E R F W O T (sfv qe.1 (t.2.2.2.2.1.drop i) b S).2 M' ∧ gJ M' 830 m = (sfv qe.1 (t.2.2.2.2.1.drop i) b S).1 ∧ AtH m M M' := by
    intro n
    induction n with
    | zero =>
      intro i b S M hi hM hb
      obtain ⟨mB, mE, -, -, -, -, mL, mS⟩ := id hM
      have h64 := mL.2.1
      obtain ⟨z1, z2, z3, z4, z5, z6⟩ := mL.2.2 l q hq
      obtain ⟨p1, p2, p3, p4, p5, p6, p7, p8, p9⟩ := z6 pk t ht
      rw [List.drop_of_length_le (show t.2.2.2.2.1.length ≤ i by omega)]
      refine ⟨M, ?_, CU.rf, hM, hb, AtH.rf⟩
      rw [tX12_bringSet_7]
      exact rd_i rfl mB.k (ix_m (n := 6 * l + pk) mB.a39 rfl (by omega) (by omega) (it_t (by rw [p6]; exact nI_le (by omega) (by omega)) rfl))
    | succ n ih =>
      intro i b S M hi hM hb
      obtain ⟨mB, mE, -, -, -, -, mL, mS⟩ := id hM
      have h64 := mL.2.1
      obtain ⟨z1, z2, z3, z4, z5, z6⟩ := mL.2.2 l q hq
      obtain ⟨p1, p2, p3, p4, p5, p6, p7, p8, p9⟩ := z6 pk t ht
      obtain ⟨w, hw, hdw⟩ := drop_get (l := t.2.2.2.2.1) (i := i) (by omega)
      have e165 := m_ordinal mB mE hqe w
      rw [hdw, sfv]
      have pre : ∀ {rr : Option Rt}, (if ¬ fndC qe.1 w 0 = (-1) then rd (some m) 12 M fun a11 => bd (sI M 828 a11 (gI M 828 m + 0)) fun M12 => rd (some m) 12 M12 fun a13 => if ¬ fndC qe.1 w 0 = (-1) then rd (some m) 12 M12 fun a14 => bd (sJ M12 830 a14 (gJ M12 830 a13 ||| ((1 : Int64) <<< ((fndC qe.1 w 0).toInt64 &&& 63)))) fun M15 => rn PP 220 7 [some (pR (some m)), some (pI (nI e)), some (pI (nI (6 * l + pk))), some (pI (nI i + 1)), none] [] M15 else rd (some m) 12 M12 fun a16 => bd (sJ M12 830 a16 (gJ M12 830 a13 ||| (0 : Int64))) fun M17 => rn PP 220 7 [some (pR (some m)), some (pI (nI e)), some (pI (nI (6 * l + pk))), some (pI (nI i + 1)), none] [] M17 else rd (some m) 12 M fun a18 => bd (sI M 828 a18 (gI M 828 m + 1)) fun M19 => rd (some m) 12 M19 fun a20 => if ¬ fndC qe.1 w 0 = (-1) then rd (some m) 12 M19 fun a21 => bd (sJ M19 830 a21 (gJ M19 830 a20 ||| ((1 : Int64) <<< ((fndC qe.1 w 0).toInt64 &&& 63)))) fun M22 => rn PP 220 7 [some (pR (some m)), some (pI (nI e)), some (pI (nI (6 * l + pk))), some (pI (nI i + 1)), none] [] M22 else rd (some m) 12 M19 fun a23 => bd (sJ M19 830 a23 (gJ M19 830 a20 ||| (0 : Int64))) fun M24 => rn PP 220 7 [some (pR (some m)), some (pI (nI e)), some (pI (nI (6 * l + pk))), some (pI (nI i + 1)), none] [] M24) = rr → rn PP 220 7 [some (pR (some m)), some (pI (nI e)), some (pI (nI (6 * l + pk))), some (pI (nI i)), none] [] M = rr := fun {rr} hr => by
        rw [tX12_bringSet_7]
        refine rd_i rfl mB.k (ix_m (n := 6 * l + pk) mB.a39 rfl (by omega) (by omega) (it_f (by rw [p6]; exact nI_ge (by omega) (by omega)) (rd_i rfl mB.k (ix_m (n := 16 * (6 * l + pk) + i) mB.a38 (m16 _ _) (by omega) (by omega) (rd_i rfl mB.k ?_)))))
        rw [p8 i w hw]
        exact clI_i e165 (rd_i rfl mB.k hr)
      by_cases c : fndC qe.1 w 0 = -1
      · rw [if_pos c]
        have hM1 : MI m E R F W O T (lfo S) (sI M 828 m (S.2.2.2.2.2.2.1 + 1)) := hM.s828 _ rfl
        have hM2 : MI m E R F W O T (lfo S) (sJ (sI M 828 m (S.2.2.2.2.2.2.1 + 1)) 830 m b) := hM1.uz UZ.g830
        have ev : gJ (sI M 828 m (S.2.2.2.2.2.2.1 + 1)) 830 m ||| (0 : Int64) = b := by
          rw [gJ_sI, hb]
          apply N64_inj
          rw [N64_or]
          show N64 b ||| 0 = N64 b
          exact Nat.or_zero _
        obtain ⟨M', e1, e2, e3, e4, e5⟩ := ih (i + 1) b (lfo S) _ (by omega) hM2 (by rw [gJ_sJ, up2_at])
        refine ⟨M', pre (it_f (not_not_intro c) (rd_i rfl mB.k ?_)), ((CU.rf.bI (by omega)).bJ (by omega)).tr e2, e3, e4, (AtH.rf.bI.bJ).tr e5⟩
        rw [mS.2.2.2.2.2.2.2]
        refine bd_i (rd_i rfl mB.k (it_f (not_not_intro c) (rd_i rfl mB.k ?_)))
        rw [ev, nI_1]
        exact bd_i e1
      · rw [if_neg c]
        have hM1 : MI m E R F W O T S (sI M 828 m (S.2.2.2.2.2.2.1 + 0)) := hM.s828 _ (by rw [Int32.add_zero])
        have hM2 : MI m E R F W O T S (sJ (sI M 828 m (S.2.2.2.2.2.2.1 + 0)) 830 m (b ||| ((1 : Int64) <<< ((fndC qe.1 w 0).toInt64 &&& 63)))) := hM1.uz UZ.g830
        obtain ⟨M', e1, e2, e3, e4, e5⟩ := ih (i + 1) (b ||| ((1 : Int64) <<< ((fndC qe.1 w 0).toInt64 &&& 63))) S _ (by omega) hM2 (by rw [gJ_sJ, up2_at])
        refine ⟨M', pre (it_t c (rd_i rfl mB.k ?_)), ((CU.rf.bI (by omega)).bJ (by omega)).tr e2, e3, e4, (AtH.rf.bI.bJ).tr e5⟩
        rw [mS.2.2.2.2.2.2.2]
        refine bd_i (rd_i rfl mB.k (it_t c (rd_i rfl mB.k ?_)))
        rw [gJ_sI, hb, nI_1]
        exact bd_i e1
  have hM0 : MI m E R F W O T S (sJ M 830 m 0) := hM.uz UZ.g830
  obtain ⟨M', e1, e2, e3, e4, e5⟩ := key t.2.2.2.2.1.length 0 0 S (sJ M 830 m 0) (by omega) hM0 (by rw [gJ_sJ, up2_at])
  rw [List.drop_zero] at e3 e4
  refine ⟨M', ?_, (CU.rf.bJ (by omega)).tr e2, e3, e4, AtH.rf.bJ.tr e5⟩
  rw [tX12_bringSet]
  exact rd_i rfl hM.1.k (bd_i e1)
end OPS
