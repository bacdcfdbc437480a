/-! KEEPING: the class's loop -/
section OPS
variable {x : Nat} {E E' : List TE} {R R' : List TR} {F F' : List TF} {W W' : List TW} {O O' : List TO} {T T' : List TL} {S S' : TS} {jW jO jW' jO' n : Nat} {M M' M1 : Mem}
/-- those who wait lie in a row, the last one first -/
def stkI (f : Nat → Int32) : List Nat → Prop
  | [] => True
  | o :: ss => f ss.length = nI o ∧ stkI f ss
theorem stkI.up {f : Nat → Int32} {i : Nat} {v : Int32} : ∀ {ss : List Nat}, stkI f ss → ss.length ≤ i → stkI (up1 f i v) ss := by
  intro ss
  induction ss with
  | nil => intro _ _; exact trivial
  | cons o ss ih =>
    intro h hi
    rw [List.length_cons] at hi
    exact ⟨by rw [up1_no (by omega)]; exact h.1, ih h.2 (by omega)⟩
/-- what holds while keeping: A marks all that may be kept, o is the one that is asked for -/
def KI (R : List TR) (A : Nat → Bool) (o : Nat) (O : List TO) (T : List TL) (ss : List Nat) : Prop := ss.Pairwise (fun a b => a < b) ∧ (∀ i ∈ ss, i < o + 1 ∧ A i = true ∧ lno O i = -1) ∧ (∀ i, i < o + 1 → A i = true → lno O i = -1 → ∀ c ∈ chn R (O.getD i o0), A c = true) ∧ T.length + ctU O A (o + 1) ≤ 64 ∧ o < O.length
section KI
variable {A : Nat → Bool} {o : Nat} {ss : List Nat}
theorem KI.len (h : KI R A o O T ss) : ss.length ≤ ctU O A (o + 1) := by
  have := asc_le (O := O) (w := A) ss.reverse (o + 1) (List.pairwise_reverse.mpr h.1) (fun i hi => h.2.1 i (List.mem_reverse.mp hi))
  rw [List.length_reverse] at this
  exact this
theorem KI.push {k c : Nat} {q : TO} (h : KI R A o O T (k :: ss)) (hq : O[k]? = some q) (hlt : ∀ c ∈ chn R q, c < k) (hc : fck O (chn R q) = some c) : KI R A o O T (c :: k :: ss) := by
  obtain ⟨h1, h2, h3, h4, h5⟩ := h
  have hm : c ∈ chn R q := List.mem_of_find?_eq_some hc
  have hl : lno O c = -1 := by
    have h0 : (fun c => decide (lno O c = -1)) c = true := List.find?_some (p := fun c => decide (lno O c = -1)) hc
    exact of_decide_eq_true h0
  have hck := hlt c hm
  obtain ⟨k1, k2, k3⟩ := h2 k List.mem_cons_self
  have hA : A c = true := h3 k k1 k2 k3 c (by rw [getD_at hq]; exact hm)
  refine ⟨List.pairwise_cons.mpr ⟨fun j hj => ?_, h1⟩, fun j hj => ?_, h3, h4, h5⟩
  · rcases List.mem_cons.mp hj with z | z
    · rw [z]; exact hck
    · have := (List.pairwise_cons.mp h1).1 j z
      omega
  · rcases List.mem_cons.mp hj with z | z
    · rw [z]; exact ⟨by omega, hA, hl⟩
    · exact h2 j z
theorem KI.write {k : Nat} {q q' : TO} {l : TL} (h : KI R A o O T (k :: ss)) (hq : O[k]? = some q) (h1' : q'.1 = q.1) (h2' : q'.2.1 = q.2.1) (hl : ¬ q'.2.2.1 = -1) : KI R A o (O.set k q') (T ++ [l]) ss ∧ ctU (O.set k q') A (o + 1) + 1 = ctU O A (o + 1) := by
  obtain ⟨h1, h2, h3, h4, h5⟩ := h
  have hk : k < O.length := (List.getElem?_eq_some_iff.mp hq).1
  obtain ⟨k1, k2, k3⟩ := h2 k List.mem_cons_self
  have hct := (ctU_set (O := O) (w := A) (q' := q') hk k2 k3 hl (o + 1)).2 k1
  obtain ⟨p1, p2⟩ := List.pairwise_cons.mp h1
  have ln_ne : ∀ i, i ≠ k → lno (O.set k q') i = lno O i := fun i hi => by
    unfold lno
    rw [List.getD_eq_getElem?_getD, List.getD_eq_getElem?_getD, List.getElem?_set_ne (fun z => hi z.symm)]
  have ln_at : lno (O.set k q') k = q'.2.2.1 := by
    unfold lno
    rw [List.getD_eq_getElem?_getD, List.getElem?_set_self hk]
    rfl
  refine ⟨⟨p2, fun i hi => ?_, fun i hi hA hn c hc => ?_, ?_, by rw [List.length_set]; exact h5⟩, hct⟩
  · have := p1 i hi
    rw [ln_ne i (by omega)]
    exact h2 i (List.mem_cons_of_mem _ hi)
  · have hik : i ≠ k := fun z => hl (by rw [z] at hn; rw [← ln_at]; exact hn)
    rw [ln_ne i hik] at hn
    refine h3 i hi hA hn c ?_
    rw [List.getD_eq_getElem?_getD, List.getElem?_set_ne (fun z => hik z.symm), ← List.getD_eq_getElem?_getD] at hc
    exact hc
  · rw [List.length_append]
    simp only [List.length_cons, List.length_nil]
    omega
end KI
theorem fck_none {cs : List Nat} (h : fck O cs = none) : ∀ c ∈ cs, lno O c ≠ -1 := fun c hc z => by
  have := List.find?_eq_none.mp h c hc
  exact this (decide_eq_true z)
theorem c_kp11 {A : Nat → Bool} {o : Nat} (hE4 : E.length ≤ 4) (hE8 : ∀ (e : Nat) (q : TE), E[e]? = some q → q.1.length ≤ 8) (hR6 : ∀ (r : Nat) (q : TR), R[r]? = some q → q.1.length ≤ 6) : ∀ (n s : Nat) (O : List TO) (T : List TL) (ss : List Nat) (M : Mem), s + n = 128 → O.length ≤ 164 → KI R A o O T ss → s + 2 * ctU O A (o + 1) ≤ 127 + ss.length → XI x E R F W O T S jW jO M → AW E R F W O T S jW jO → stkI (aI M (x + 11)) ss → ∃ k M' O' T' nn, rn PP 139 11 [some (pR (some x)), none, some (pI (nI ss.length)), some (pI (nI s)), none, none] [] M = some (none, M') ∧ kit E R W S k (O, T, ss) = (O', T', []) ∧ XI x E R F W O' T' S jW jO M' ∧ AW E R F W O' T' S jW jO ∧ Fr x (fun k => k = 451) (fun l => l = x + 10) (fun d => d = x + 11) No nn M M' ∧ nn + 64 * T.length ≤ 64 * T'.length ∧ shO O O' := by
  intro n
  induction n with
  | zero =>
    intro s O T ss M hs hO hk hb
    have := hk.len
    omega
  | succ n ih =>
    intro s O T ss M hs hO hk hb hX aw hst
    have hlen := hk.len
    have h64 := hk.2.2.2.1
    have hB := hX.1.1
    have r11 := hB.r11
    have s128 : ¬ (128 : Int32) ≤ nI s := nI_ge (b := 128) (by omega) (by omega)
    cases ss with
    | nil =>
      refine ⟨0, M, O, T, 0, ?_, rfl, hX, aw, Fr.rf hX.1.2.1 hX.1.2.2, by omega, shO.rf⟩
      rw [tX11_keepInOrder_11]
      exact it_f s128 (it_t (by decide) rfl)
    | cons k ss =>
      rw [List.length_cons] at hb hlen ⊢
      obtain ⟨k1, k2, k3⟩ := hk.2.1 k List.mem_cons_self
      have ho5 := hk.2.2.2.2
      obtain ⟨q, hq⟩ : ∃ q, O[k]? = some q := ⟨_, List.getElem?_eq_getElem (by omega)⟩
      obtain ⟨rc, hrc, hvl, -, hval⟩ := aw.2.2.2.1 k q hq
      obtain ⟨a, g16, xa, ca, -⟩ := XO.at hX.2.2.2.2.2.1 hq
      have e140 := c_first hX aw hO hq ca
      have pre : ∀ {rr : Option Rt}, (if ¬ fcI (fck O (chn R q)) = (-1) then rd (some x) 11 M fun a11 => al (gR M 720 a11) M fun a12 => if nI (ln M a12) ≤ nI (ss.length + 1) then rn PP 139 11 [some (pR (some x)), none, some (pI (nI (ss.length + 1))), some (pI (nI s + 1)), none, none] [] M else rd (some x) 11 M fun a13 => ix 20 20 (gR M 720 a13) (nI (ss.length + 1)) M fun a14 j15 => bd (wI M a14 j15 (fcI (fck O (chn R q)))) fun M16 => rn PP 139 11 [some (pR (some x)), none, some (pI (nI (ss.length + 1) + 1)), some (pI (nI s + 1)), none, none] [] M16 else rd (some x) 11 M fun a18 => clV (ex 141 5 [pR (some a18), pR (some a)] M) fun M17 => rn PP 139 11 [some (pR (some x)), none, some (pI (nI (ss.length + 1) + (-1))), some (pI (nI s + 1)), none, none] [] M17) = rr → rn PP 139 11 [some (pR (some x)), none, some (pI (nI (ss.length + 1))), some (pI (nI s)), none, none] [] M = rr := fun {rr} hr => by
        rw [tX11_keepInOrder_11]
        refine it_f s128 (it_f (fun z => ?_) (rd_i rfl hB.k (rd_i rfl hB.k (ix_i (n := ss.length) r11.1 (Or.inl r11.2.1) (by rw [nI_pred]) (by rw [r11.2.2]; omega) (by omega) (rd_i hB.r5.1 hB.r5.2 (clR_i (v := some a) (M1 := M) ?_ (ck_s rfl ca.1 (rd_i rfl hB.k (clI_i e140 hr)))))))))
        · rw [I32_le, nI_toInt (by omega)] at z
          have : (0 : Int32).toInt = 0 := rfl
          omega
        · rw [hst.1]; exact g16
      cases hf : fck O (chn R q) with
      | some c =>
        have hk' := hk.push hq (chn_lt aw.2.2.2.1 hO hq) hf
        have hc164 : c < k := chn_lt aw.2.2.2.1 hO hq c (List.mem_of_find?_eq_some hf)
        have hl' := hk'.len
        rw [List.length_cons, List.length_cons] at hl'
        have f1 : Fr x (fun k => k = 451) (fun l => l = x + 10) (fun d => d = x + 11) No 0 M (wI M (x + 11) (ss.length + 1) (nI c)) := (Fr.rf hX.1.2.1 hX.1.2.2).bAI (Or.inl rfl)
        have f1' : Fr x No No (fun d => d = x + 11) No 0 M (wI M (x + 11) (ss.length + 1) (nI c)) := (Fr.rf hX.1.2.1 hX.1.2.2).bAI (Or.inl rfl)
        have hX1 : XI x E R F W O T S jW jO (wI M (x + 11) (ss.length + 1) (nI c)) := hX.frS f1' (fun _ q => q.elim) (fun d q => by omega) (fun _ q => q.elim) (hX.2.2.2.2.2.2.2.fr hB f1' (fun _ _ => id) ⟨by omega, by omega⟩ id)
        have st1 : stkI (aI (wI M (x + 11) (ss.length + 1) (nI c)) (x + 11)) (c :: k :: ss) := by
          rw [aI_wI, up1_at]
          exact ⟨by rw [List.length_cons, up1_at], stkI.up hst (by rw [List.length_cons]; exact Nat.le_refl _)⟩
        obtain ⟨j, M', O', T', nn, e1, e2, e3, e4, e5, e6, e7⟩ := ih (s + 1) O T (c :: k :: ss) (wI M (x + 11) (ss.length + 1) (nI c)) (by omega) hO hk' (by rw [List.length_cons, List.length_cons]; omega) hX1 aw st1
        refine ⟨j + 1, M', O', T', nn, pre ?_, by rw [kit, kst_push hq hf]; exact e2, e3, e4, ?_, e6, e7⟩
        · rw [hf]
          refine it_t (nI_m1 (by omega)) (rd_i rfl hB.k (al_i r11.1 (by rw [r11.2.1]; omega) (it_f (by rw [r11.2.2]; exact nI_ge (by omega) (by omega)) (rd_i rfl hB.k (ix_i (n := ss.length + 1) r11.1 (Or.inl r11.2.1) rfl (by rw [r11.2.2]; omega) (by omega) (bd_i ?_))))))
          rw [nI_1, nI_1]
          exact e1
        · have := f1.tr e5
          rw [Nat.zero_add] at this
          exact this
      | none =>
        have hT : T.length < 64 := by omega
        have hnl : ¬ nI T.length = -1 := nI_m1 (by omega)
        obtain ⟨M1, e141, hX1, f1⟩ := c_addLine hX aw hq g16 hrc (hR6 q.1 rc hrc) hE4 hE8 hT
        obtain ⟨hk', hct⟩ := hk.write (l := mkL E R W O S q) (q' := (q.1, q.2.1, nI T.length, q.2.2.2)) hq rfl rfl hnl
        have aw' := aw_line aw hO hT hE8 hq hrc (fck_none hf)
        have st1 : stkI (aI M1 (x + 11)) ss := by
          rw [f1.eI (by have := hB.lt; omega) id]
          exact hst.2
        obtain ⟨j, M', O', T', nn, e1, e2, e3, e4, e5, e6, e7⟩ := ih (s + 1) _ _ ss M1 (by omega) (by rw [List.length_set]; exact hO) hk' (by omega) hX1 aw' st1
        have hlT : (T ++ [mkL E R W O S q]).length = T.length + 1 := by rw [List.length_append]; rfl
        rw [hlT] at e6
        refine ⟨j + 1, M', O', T', 40 + nn, pre ?_, by rw [kit, kst_write hq hf]; exact e2, e3, e4, (f1.mo (Nat.le_refl _) (fun _ => id) (fun _ => id) (fun _ q => q.elim) (fun _ => id)).tr e5, by omega, (shO.set (q' := (q.1, q.2.1, nI T.length, q.2.2.2)) hq rfl rfl).tr e7⟩
        rw [hf]
        refine it_f (not_not_intro rfl) (rd_i rfl hB.k (clV_i e141 ?_))
        rw [nI_dec, nI_1]
        exact e1
end OPS
