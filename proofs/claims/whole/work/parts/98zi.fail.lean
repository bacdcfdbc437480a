/-! WHY SOMETHING FAILED; VALUES AT HAND -/
section OPS
variable {x : Nat} {E E' : List TE} {R R' : List TR} {F F' : List TF} {W W' : List TW} {O O' : List TO} {T T' : List TL} {S S' : TS} {jW jO jW' jO' n : Nat} {M M' M1 : Mem}
def cau (S : TS) (c r p k l : Int32) : TS := (S.1, S.2.1, S.2.2.1, S.2.2.2.1, (fun i => if i = 0 then c else if i = 1 then r else if i = 2 then p else if i = 3 then k else l), S.2.2.2.2.2)
theorem c_failed {c r p k l : Int32} (hX : XI x E R F W O T S jW jO M) : ∃ M', ex 127 6 [pR (some x), pI c, pI r, pI p, pI k, pI l] M = some (some (pI (-10 - c)), M') ∧ XI x E R F W O T (cau S c r p k l) jW jO M' ∧ Fr x No No (fun d => d = x + 9) No 0 M M' := by
  obtain ⟨⟨hB, hv, hL⟩, -, -, -, -, -, -, hS⟩ := id hX
  have r9 := hB.r9
  have step : ∀ (M : Mem) (j : Nat) (v : Int32), (kd M x = 11 ∧ gR M 718 x = some (x + 9) ∧ kd M (x + 9) = 20 ∧ ln M (x + 9) = 5) → (kd (wI M (x + 9) j v) x = 11 ∧ gR (wI M (x + 9) j v) 718 x = some (x + 9) ∧ kd (wI M (x + 9) j v) (x + 9) = 20 ∧ ln (wI M (x + 9) j v) (x + 9) = 5) := fun M j v h => h
  have p0 : kd M x = 11 ∧ gR M 718 x = some (x + 9) ∧ kd M (x + 9) = 20 ∧ ln M (x + 9) = 5 := ⟨hB.k, r9.1, r9.2.1, r9.2.2⟩
  have p1 := step _ 0 c p0
  have p2 := step _ 1 r p1
  have p3 := step _ 2 p p2
  have p4 := step _ 3 k p3
  have run : ex 127 6 [pR (some x), pI c, pI r, pI p, pI k, pI l] M = some (some (pI (-10 - c)), wI (wI (wI (wI (wI M (x + 9) 0 c) (x + 9) 1 r) (x + 9) 2 p) (x + 9) 3 k) (x + 9) 4 l) := by
    rw [tX11_failed]
    refine rd_i rfl p0.1 (ix_i (n := 0) p0.2.1 (Or.inl p0.2.2.1) rfl (by rw [p0.2.2.2]; decide) (by decide) (bd_i ?_))
    refine rd_i rfl p1.1 (ix_i (n := 1) p1.2.1 (Or.inl p1.2.2.1) rfl (by rw [p1.2.2.2]; decide) (by decide) (bd_i ?_))
    refine rd_i rfl p2.1 (ix_i (n := 2) p2.2.1 (Or.inl p2.2.2.1) rfl (by rw [p2.2.2.2]; decide) (by decide) (bd_i ?_))
    refine rd_i rfl p3.1 (ix_i (n := 3) p3.2.1 (Or.inl p3.2.2.1) rfl (by rw [p3.2.2.2]; decide) (by decide) (bd_i ?_))
    refine rd_i rfl p4.1 (ix_i (n := 4) p4.2.1 (Or.inl p4.2.2.1) rfl (by rw [p4.2.2.2]; decide) (by decide) (bd_i ?_))
    exact clI_i (tX11_answerOf _ _) rfl
  clear step p1 p2 p3 p4
  have e1 : wI M (x + 9) 0 c = uI M (x + 9) (up1 (aI M (x + 9)) 0 c) := rfl
  rw [e1, wI_uI, wI_uI, wI_uI, wI_uI] at run
  generalize hg : up1 (up1 (up1 (up1 (up1 (aI M (x + 9)) 0 c) 1 r) 2 p) 3 k) 4 l = g at run
  have g0 : g 0 = c := by rw [← hg, up1_no (by omega), up1_no (by omega), up1_no (by omega), up1_no (by omega), up1_at]
  have g1 : g 1 = r := by rw [← hg, up1_no (by omega), up1_no (by omega), up1_no (by omega), up1_at]
  have g2 : g 2 = p := by rw [← hg, up1_no (by omega), up1_no (by omega), up1_at]
  have g3 : g 3 = k := by rw [← hg, up1_no (by omega), up1_at]
  have g4 : g 4 = l := by rw [← hg, up1_at]
  have f : Fr x No No (fun d => d = x + 9) No 0 M (uI M (x + 9) g) := (Fr.rf hv hL).bAI (Or.inl rfl)
  obtain ⟨s1, s2, s3, s4, s5, s6, s7, s8, s9⟩ := hS
  refine ⟨_, run, hX.frS f (fun _ q => q.elim) (fun a q => by omega) (fun _ q => q.elim) ⟨s1, s2, s3, fun i d hd => ?_, s5, fun i hi => ?_, s7, s8, s9⟩, f⟩
  · rw [aI_uI, up1_no (by omega)]
    exact s4 i d hd
  · rw [aI_uI, up1_at]
    have : i = 0 ∨ i = 1 ∨ i = 2 ∨ i = 3 ∨ i = 4 := by omega
    rcases this with rfl | rfl | rfl | rfl | rfl
    · exact g0
    · exact g1
    · exact g2
    · exact g3
    · exact g4
theorem US.bI {m k : Nat} {v : Int32} (h : US m M M1) (hk : k ∉ [768, 773, 784, 793, 791, 813]) : US m M (sI M1 k m v) := by
  obtain ⟨⟨a1, a2, a3⟩, b, c, d⟩ := h
  refine ⟨⟨by rw [kd_sI]; exact a1, by rw [ln_sI]; exact a2, by rw [gR_sI]; exact a3⟩, fun j hj => ?_, fun i hi => by rw [aI_sI]; exact c i hi, fun i hi => by rw [aJ_sI]; exact d i hi⟩
  have hne : j ≠ k := fun z => hk (by rw [← z]; exact hj)
  rw [gI_sI, up2_ne hne]
  exact b j hj
theorem US.rf {m : Nat} : US m M M := ⟨⟨rfl, rfl, rfl⟩, fun _ _ => rfl, fun _ _ => rfl, fun _ _ => rfl⟩
theorem m_caused {m : Nat} {c r p k l : Int32} (h : MI m E R F W O T S M) : ∃ M', ex 198 6 [pR (some m), pI c, pI r, pI p, pI k, pI l] M = some (some (pI (-10 - c)), M') ∧ CU m M M' ∧ MI m E R F W O T (cau S c r p k l) M' ∧ AtH m M M' := by
  obtain ⟨mB, -, -, -, -, -, -, mS⟩ := id h
  obtain ⟨s1, s2, s3, s4, s5, s6, s7, s8⟩ := mS
  have b1 : MB m (sI M 807 m c) := mB.sI
  have b2 : MB m (sI (sI M 807 m c) 808 m r) := b1.sI
  have b3 : MB m (sI (sI (sI M 807 m c) 808 m r) 809 m p) := b2.sI
  have b4 : MB m (sI (sI (sI (sI M 807 m c) 808 m r) 809 m p) 810 m k) := b3.sI
  refine ⟨sI (sI (sI (sI (sI M 807 m c) 808 m r) 809 m p) 810 m k) 811 m l, ?_, ((((CU.rf.bI (by omega)).bI (by omega)).bI (by omega)).bI (by omega)).bI (by omega), ?_, AtH.rf.bI.bI.bI.bI.bI⟩
  · rw [tX12_caused]
    exact rd_i rfl mB.k (bd_i (rd_i rfl b1.k (bd_i (rd_i rfl b2.k (bd_i (rd_i rfl b3.k (bd_i (rd_i rfl b4.k (bd_i rfl)))))))))
  · refine h.us (((((US.rf.bI (by decide)).bI (by decide)).bI (by decide)).bI (by decide)).bI (by decide)) ⟨?_, ?_, ?_, fun i d hd => ?_, fun i hi => ?_, ⟨?_, ?_, ?_, ?_, ?_⟩, ?_, ?_⟩
    · rw [gI_sI, up2_ne (by omega), gI_sI, up2_ne (by omega), gI_sI, up2_ne (by omega), gI_sI, up2_ne (by omega), gI_sI, up2_ne (by omega)]; exact s1
    · rw [gI_sI, up2_ne (by omega), gI_sI, up2_ne (by omega), gI_sI, up2_ne (by omega), gI_sI, up2_ne (by omega), gI_sI, up2_ne (by omega)]; exact s2
    · rw [gI_sI, up2_ne (by omega), gI_sI, up2_ne (by omega), gI_sI, up2_ne (by omega), gI_sI, up2_ne (by omega), gI_sI, up2_ne (by omega)]; exact s3
    · rw [aI_sI, aI_sI, aI_sI, aI_sI, aI_sI]; exact s4 i d hd
    · rw [aJ_sI, aJ_sI, aJ_sI, aJ_sI, aJ_sI]; exact s5 i hi
    · rw [gI_sI, up2_ne (by omega), gI_sI, up2_ne (by omega), gI_sI, up2_ne (by omega), gI_sI, up2_ne (by omega), gI_sI, up2_at]; rfl
    · rw [gI_sI, up2_ne (by omega), gI_sI, up2_ne (by omega), gI_sI, up2_ne (by omega), gI_sI, up2_at]; rfl
    · rw [gI_sI, up2_ne (by omega), gI_sI, up2_ne (by omega), gI_sI, up2_at]; rfl
    · rw [gI_sI, up2_ne (by omega), gI_sI, up2_at]; rfl
    · rw [gI_sI, up2_at]; rfl
    · rw [gI_sI, up2_ne (by omega), gI_sI, up2_ne (by omega), gI_sI, up2_ne (by omega), gI_sI, up2_ne (by omega), gI_sI, up2_ne (by omega)]; exact s7
    · rw [gI_sI, up2_ne (by omega), gI_sI, up2_ne (by omega), gI_sI, up2_ne (by omega), gI_sI, up2_ne (by omega), gI_sI, up2_ne (by omega)]; exact s8
/-- values in a row of longs -/
def V21 (M : Mem) (d : Nat) (vs : List Int64) : Prop := kd M d = 21 ∧ ln M d = 6 ∧ vs.length ≤ 6 ∧ ∀ (i : Nat) (v : Int64), vs[i]? = some v → aJ M d i = v
theorem V21.fr {d : Nat} {vs : List Int64} {K L AI AJ : Nat → Prop} (h : V21 M d vs) (f : Fr x K L AI AJ n M M1) (hA : ¬ AJ d) : V21 M1 d vs := by
  obtain ⟨h1, h2, h3, h4⟩ := h
  have hd := lt_of_kd f.v0 h1 (by omega)
  exact ⟨by rw [f.fk hd]; exact h1, by rw [f.fl hd]; exact h2, h3, fun i v hi => by rw [f.eJ hd hA]; exact h4 i v hi⟩
/-- the start that a part asks for -/
def stP (E : List TE) (S : TS) (t : TP) (v : Int64) : Int32 × List TE × TS := if (t.2.1 = 8 ∧ v ≠ -1) ∨ (t.2.1 = 9 ∧ v ≠ 0) then stE E S t.2.2.1.toNatClampNeg else (0, E, S)
abbrev K3 : Nat → Prop := fun k => k = 194 ∨ k = 195 ∨ k = 715
theorem c_startFor {t : TP} {k : Nat} {v : Int64} (hX : XI x E R F W O T S jW jO M) (hp : cP M t k) (hs : srtOK E.length F.length t.2.1 t.2.2.1) (hS : S.2.2.1.length = cntE E + cntR R) (hE4 : E.length ≤ 4) (hR6 : R.length ≤ 6) : ∃ M', ex 119 5 [pR (some x), pR (some k), pJ v] M = some (some (pI (stP E S t v).1), M') ∧ XI x (stP E S t v).2.1 R F W O T (stP E S t v).2.2 jW jO M' ∧ Fr x K3 No (fun d => d = x + 6) No 0 M M' := by
  obtain ⟨⟨hB, hv, hL⟩, -, -, -, -, -, -, -⟩ := id hX
  obtain ⟨p1, p2, p3, p4, p5⟩ := hp
  have no : ¬ ((t.2.1 = 8 ∧ v ≠ -1) ∨ (t.2.1 = 9 ∧ v ≠ 0)) → stP E S t v = (0, E, S) := fun z => by unfold stP; rw [if_neg z]
  have ye : ((t.2.1 = 8 ∧ v ≠ -1) ∨ (t.2.1 = 9 ∧ v ≠ 0)) → ∃ M', ex 117 3 [pR (some x), pI (gI M 514 k)] M = some (some (pI (stP E S t v).1), M') ∧ XI x (stP E S t v).2.1 R F W O T (stP E S t v).2.2 jW jO M' ∧ Fr x K3 No (fun d => d = x + 6) No 0 M M' := fun z => by
    have e1 : stP E S t v = stE E S t.2.2.1.toNatClampNeg := by unfold stP; rw [if_pos z]
    have s89 : t.2.1 = 8 ∨ t.2.1 = 9 := by
      rcases z with z | z
      · exact Or.inl z.1
      · exact Or.inr z.1
    obtain ⟨e, he, hf⟩ := hs.2.2.1 s89
    have g8 : (8 : Int32) ≤ t.2.1 := by rcases s89 with z | z <;> (rw [z]; decide)
    obtain ⟨q, hq⟩ : ∃ q, E[e]? = some q := ⟨_, List.getElem?_eq_getElem he⟩
    rw [e1, p4 g8, hf, nI_clamp (by omega)]
    exact c_startE hX hq hS hE4 hR6
  rw [tX11_startFor]
  by_cases h8 : t.2.1 = 8
  · by_cases hm : v = -1
    · rw [no (by rintro (⟨-, z⟩ | ⟨z, -⟩); exact z hm; rw [h8] at z; exact absurd z (by decide))]
      exact ⟨M, rd_i rfl p1 (it_f (not_not_intro (p3.trans h8)) (it_f (not_not_intro (cmp_eq0.mpr hm)) (rd_i rfl p1 (it_t (by rw [p3, h8]; decide) (it_t rfl rfl))))), hX, Fr.rf hv hL⟩
    · obtain ⟨M', e1, e2, e3⟩ := ye (Or.inl ⟨h8, hm⟩)
      exact ⟨M', rd_i rfl p1 (it_f (not_not_intro (p3.trans h8)) (it_t (fun z => hm (cmp_eq0.mp z)) (it_f (by decide) (rd_i rfl p1 (rd_i rfl hB.k (clI_i e1 rfl)))))), e2, e3⟩
  · by_cases h9 : t.2.1 = 9
    · by_cases hm : v = 0
      · rw [no (by rintro (⟨z, -⟩ | ⟨-, z⟩); exact h8 z; exact z hm)]
        exact ⟨M, rd_i rfl p1 (it_t (fun z => h8 (p3.symm.trans z)) (rd_i rfl p1 (it_f (not_not_intro (p3.trans h9)) (it_t (cmp_eq0.mpr hm) (it_t rfl rfl))))), hX, Fr.rf hv hL⟩
      · obtain ⟨M', e1, e2, e3⟩ := ye (Or.inr ⟨h9, hm⟩)
        exact ⟨M', rd_i rfl p1 (it_t (fun z => h8 (p3.symm.trans z)) (rd_i rfl p1 (it_f (not_not_intro (p3.trans h9)) (it_f (fun z => hm (cmp_eq0.mp z)) (it_f (by decide) (rd_i rfl p1 (rd_i rfl hB.k (clI_i e1 rfl)))))))), e2, e3⟩
    · rw [no (by rintro (⟨z, -⟩ | ⟨z, -⟩); exact h8 z; exact h9 z)]
      exact ⟨M, rd_i rfl p1 (it_t (fun z => h8 (p3.symm.trans z)) (rd_i rfl p1 (it_t (fun z => h9 (p3.symm.trans z)) (it_t rfl rfl)))), hX, Fr.rf hv hL⟩
theorem aw_stP {t : TP} {v : Int64} (aw : AW E R F W O T S jW jO) : AW (stP E S t v).2.1 R F W O T (stP E S t v).2.2 jW jO ∧ shE E (stP E S t v).2.1 := by
  unfold stP
  split
  · exact aw_stE aw _
  · exact ⟨aw, shE.rf⟩
def stPs : List TP → List Int64 → Nat → List TE → TS → Option (Int32 × Nat) × List TE × TS
  | t :: ts, v :: vs, p, E, S => if (stP E S t v).1 = 0 then stPs ts vs (p + 1) (stP E S t v).2.1 (stP E S t v).2.2 else (some ((stP E S t v).1, p), (stP E S t v).2.1, (stP E S t v).2.2)
  | _, _, _, E, S => (none, E, S)
theorem aw_stPs : ∀ (ts : List TP) (vs : List Int64) (p : Nat) (E : List TE) (S : TS), AW E R F W O T S jW jO → AW (stPs ts vs p E S).2.1 R F W O T (stPs ts vs p E S).2.2 jW jO ∧ shE E (stPs ts vs p E S).2.1 := by
  intro ts
  induction ts with
  | nil => intro vs p E S aw; exact ⟨aw, shE.rf⟩
  | cons t ts ih =>
    intro vs p E S aw
    cases vs with
    | nil => exact ⟨aw, shE.rf⟩
    | cons v vs =>
      obtain ⟨a1, a2⟩ := aw_stP (t := t) (v := v) aw
      unfold stPs
      by_cases h : (stP E S t v).1 = 0
      · rw [if_pos h]
        obtain ⟨b1, b2⟩ := ih vs (p + 1) _ _ a1
        exact ⟨b1, a2.tr b2⟩
      · rw [if_neg h]
        exact ⟨a1, a2⟩
end OPS
