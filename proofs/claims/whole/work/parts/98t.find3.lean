/-! CALLS: word, range: the model -/
section OPS
variable {x : Nat} {E E' : List TE} {R R' : List TR} {F F' : List TF} {W W' : List TW} {O O' : List TO} {T T' : List TL} {S S' : TS} {jW jO jW' jO' n : Nat} {M M' M1 : Mem}
theorem isNm_8 {t : TQ} (h : isNm t = true) : 8 ≤ t.2.1 := by
  unfold isNm at h
  rw [Bool.or_eq_true, decide_eq_true_eq, decide_eq_true_eq] at h
  rcases h with h | h <;> (rw [h]; decide)
theorem c_range {part : Int64} {e ae : Nat} {qe : TE} {lo hi i : Int32} (hX : XI x E R F W O T S jW jO M) (he : cE x M qe ae) : ∃ M', rn PP 104 17 [some (pR (some x)), some (pJ part), none, some (pI (nI e)), some (pI lo), some (pI hi), some (pI i), some (pR (some ae)), some (pI 0), none] [] M = some (some (pI (fdl (T.map (fun q => hasL q part (fun o => decide (o = nI e)) (inRg qe lo hi))) i 0 0)), M') ∧ GI (fun j _ => j = 390) M M' := by
  obtain ⟨⟨hB, hv, hL⟩, -, -, -, -, -, ⟨as, ad, hT⟩, -⟩ := id hX
  have hT : XLa x M as ad T := hT
  have hl := hT.len
  have key : ∀ (c k : Nat) (M1 : Mem), c + k = T.length → GI (fun j _ => j = 390) M M1 → FlG as T (fun q => hasL q part (fun o => decide (o = nI e)) (inRg qe lo hi)) k M1 → ∃ M', rn PP 104 17 [some (pR (some x)), some (pJ part), none, some (pI (nI e)), some (pI lo), some (pI hi), some (pI i), some (pR (some ae)), some (pI (nI k)), none] [] M1 = some (some (pI (fdl (T.map (fun q => hasL q part (fun o => decide (o = nI e)) (inRg qe lo hi))) i 0 0)), M') ∧ GI (fun j _ => j = 390) M M' := by
    intro c
    induction c with
    | zero =>
      intro k M1 hk hg hf
      have f : Fr x (fun k => k = 390) No No No 0 M M1 := hg.fr hv hL (fun k a q => by omega)
      have hB1 := hB.fr f (by decide) (fun _ _ => id)
      have hT1 := hT.gi hg hv hL (fun k a q => by subst q; decide)
      refine ⟨M1, ?_, hg⟩
      rw [tX11_range_17]
      exact rd_i rfl hB1.k (rd_i hB1.r10.1 hB1.r10.2 (clI_i hT1.size (it_t (nI_le (by omega) (by omega)) (rd_i rfl hB1.k (clI_i (c_foundLine hB1 hT1 (fun k a q h1 h2 => hf k a q (by have := (List.getElem?_eq_some_iff.mp h2).1; omega) h1 h2) i) rfl)))))
    | succ c ih =>
      intro k M1 hk hg hf
      have f : Fr x (fun k => k = 390) No No No 0 M M1 := hg.fr hv hL (fun k a q => by omega)
      have hB1 := hB.fr f (by decide) (fun _ _ => id)
      have hT1 := hT.gi hg hv hL (fun k a q => by subst q; decide)
      have he1 := he.fr f (by decide) id
      obtain ⟨q, hq⟩ : ∃ q, T[k]? = some q := ⟨_, List.getElem?_eq_getElem (by omega)⟩
      obtain ⟨a, ga, g1, g2, g3⟩ := hT1.at hq
      have e60 := c_keptAs g3 part
      have next : ∀ v : Int32, v = b32 (hasL q part (fun o => decide (o = nI e)) (inRg qe lo hi)) → ∃ M', rn PP 104 17 [some (pR (some x)), some (pJ part), none, some (pI (nI e)), some (pI lo), some (pI hi), some (pI i), some (pR (some ae)), some (pI (nI k + 1)), none] [] (sI M1 390 a v) = some (some (pI (fdl (T.map (fun q => hasL q part (fun o => decide (o = nI e)) (inRg qe lo hi))) i 0 0)), M') ∧ GI (fun j _ => j = 390) M M' := fun v hv' => by
        rw [nI_1]
        exact ih (k + 1) _ (by omega) (hg.sI rfl) (hf.step hT1 ga hq hv')
      have pre : ∀ {r14 : Option Nat}, (fndQ q.2.2.1 part 0).map (ad k) = r14 → rn PP 104 17 [some (pR (some x)), some (pJ part), none, some (pI (nI e)), some (pI lo), some (pI hi), some (pI i), some (pR (some ae)), some (pI (nI k)), none] [] M1 = (if r14 = none then rd (some a) 6 M1 fun a19 => zo 0 (bd (sI M1 390 a19 0) fun M20 => rn PP 104 17 [some (pR (some x)), some (pJ part), none, some (pI (nI e)), some (pI lo), some (pI hi), some (pI i), some (pR (some ae)), some (pI (nI k + 1)), none] [] M20) else rd r14 5 M1 fun a21 => if ¬ gI M1 322 a21 = nI e then rd (some a) 6 M1 fun a22 => zo 0 (bd (sI M1 390 a22 0) fun M23 => rn PP 104 17 [some (pR (some x)), some (pJ part), none, some (pI (nI e)), some (pI lo), some (pI hi), some (pI i), some (pR (some ae)), some (pI (nI k + 1)), none] [] M23) else rd r14 5 M1 fun a25 => clI (ex 57 6 [pR (some a25), pR (some ae), pI lo, pI hi] M1) fun r26 M24 => if r26 = 0 then rd (some a) 6 M24 fun a27 => zo 0 (bd (sI M24 390 a27 0) fun M28 => rn PP 104 17 [some (pR (some x)), some (pJ part), none, some (pI (nI e)), some (pI lo), some (pI hi), some (pI i), some (pR (some ae)), some (pI (nI k + 1)), none] [] M28) else rd (some a) 6 M24 fun a29 => zo 1 (bd (sI M24 390 a29 1) fun M30 => rn PP 104 17 [some (pR (some x)), some (pJ part), none, some (pI (nI e)), some (pI lo), some (pI hi), some (pI i), some (pR (some ae)), some (pI (nI k + 1)), none] [] M30)) := fun {r14} e' => by
        rw [tX11_range_17]
        rw [e'] at e60
        exact rd_i rfl hB1.k (rd_i hB1.r10.1 hB1.r10.2 (clI_i hT1.size (it_f (nI_ge (by omega) (by omega)) (rd_i rfl hB1.k (rd_i hB1.r10.1 hB1.r10.2 (clR_i g1 (ck_s rfl g3.1 (rd_i rfl g3.1 (clR_i e60 (rd_i rfl hB1.k (rd_i hB1.r10.1 hB1.r10.2 (clR_i g1 (ck_s rfl g3.1 rfl)))))))))))))
      cases hf' : fndQ q.2.2.1 part 0 with
      | none =>
        obtain ⟨M', n1, n2⟩ := next 0 (by rw [hasL_none hf']; rfl)
        exact ⟨M', (pre (r14 := none) (by rw [hf']; rfl)).trans (it_t rfl (rd_i rfl g3.1 (zo_i (Or.inl rfl) (bd_i n1)))), n2⟩
      | some p =>
        obtain ⟨t, -, ht, -⟩ := fndQ_some _ _ _ hf'
        rw [Nat.sub_zero] at ht
        have hqq := hasL_some (oc := fun o => decide (o = nI e)) (P := inRg qe lo hi) hf' ht
        obtain ⟨-, -, -, -, -, -, -, pq, -, -, -, -, g5⟩ := id g3
        obtain ⟨y1, y2, y3⟩ := g5 p t ht
        have e57 := c_hasOrd (lo := lo) (hi := hi) hB1 y3 he1
        by_cases ho : gI M1 322 (ad k p) = nI e
        · have hqq2 : hasL q part (fun o => decide (o = nI e)) (inRg qe lo hi) = (isNm t && t.2.2.2.2.1.any (inRg qe lo hi)) := by
            rw [hqq]
            cases hn : isNm t with
            | false => rfl
            | true => rw [← y3.2.2.2.1 (isNm_8 hn), decide_eq_true ho, Bool.true_and]
          rw [← hqq2] at e57
          cases hb : hasL q part (fun o => decide (o = nI e)) (inRg qe lo hi) with
          | false =>
            rw [hb] at e57
            obtain ⟨M', n1, n2⟩ := next 0 (by rw [hb]; rfl)
            exact ⟨M', (pre (r14 := some (ad k p)) (by rw [hf']; rfl)).trans (it_f (fun q => nomatch q) (rd_i rfl y3.1 (it_f (not_not_intro ho) (rd_i rfl y3.1 (clI_i e57 (it_t rfl (rd_i rfl g3.1 (zo_i (Or.inl rfl) (bd_i n1))))))))), n2⟩
          | true =>
            rw [hb] at e57
            obtain ⟨M', n1, n2⟩ := next 1 (by rw [hb]; rfl)
            exact ⟨M', (pre (r14 := some (ad k p)) (by rw [hf']; rfl)).trans (it_f (fun q => nomatch q) (rd_i rfl y3.1 (it_f (not_not_intro ho) (rd_i rfl y3.1 (clI_i e57 (it_f (by decide) (rd_i rfl g3.1 (zo_i (Or.inr rfl) (bd_i n1))))))))), n2⟩
        · have hb : hasL q part (fun o => decide (o = nI e)) (inRg qe lo hi) = false := by
            rw [hqq]
            cases hn : isNm t with
            | false => rfl
            | true => rw [← y3.2.2.2.1 (isNm_8 hn), decide_eq_false ho]; rfl
          obtain ⟨M', n1, n2⟩ := next 0 (by rw [hb]; rfl)
          exact ⟨M', (pre (r14 := some (ad k p)) (by rw [hf']; rfl)).trans (it_f (fun q => nomatch q) (rd_i rfl y3.1 (it_t ho (rd_i rfl g3.1 (zo_i (Or.inl rfl) (bd_i n1)))))), n2⟩
  exact key T.length 0 M (by omega) GI.rf (fun j a q hj => by omega)
/-- what the model asks of a word -/
def AskP (E : List TE) (l6 : Int32) (nm : Int64) (lo hi : Int32) (oc : Int32 → Bool) (P : Int64 → Bool) : Prop := (l6 = -1 ∧ (∀ o, oc o = true) ∧ ∀ v, P v = decide (v = nm)) ∨ (∃ e q, l6 = nI e ∧ e < 4 ∧ E[e]? = some q ∧ (∀ o, oc o = decide (o = nI e)) ∧ ∀ v, P v = inRg q lo hi v)
theorem in_rg (c lo hi : Int32) : (inB c.toInt64 lo.toInt64 hi.toInt64 = 0 ↔ c < lo ∨ hi < c) := by
  rw [inB_rng, Int32.toInt_toInt64, Int32.toInt_toInt64, I32_lt, I32_lt]
  by_cases h : lo.toInt ≤ c.toInt ∧ c.toInt ≤ hi.toInt
  · rw [if_pos h]
    exact ⟨fun z => absurd z (by decide), fun z => by omega⟩
  · rw [if_neg h]
    exact ⟨fun _ => by omega, fun _ => rfl⟩
theorem m_has {m l : Nat} {q : TL} {part nm : Int64} {l6 lo hi : Int32} {oc : Int32 → Bool} {P : Int64 → Bool} (mB : MB m M) (mE : ME m M E) (mL : ML m M T) (hq : T[l]? = some q) (hP : AskP E l6 nm lo hi oc P) : ex 225 14 [pR (some m), pI (nI l), pJ part, pJ nm, pI l6, pI lo, pI hi] M = some (some (pI (b32 (hasL q part oc P))), M) := by
  have hl : l < T.length := (List.getElem?_eq_some_iff.mp hq).1
  have h64 := mL.2.1
  have hE4 := mE.2.1
  obtain ⟨y1, y2, y3, y4, y5, y6⟩ := mL.2.2 l q hq
  have e218 := m_keptPart mB mL hq part
  rw [tX12_has]
  cases hf : fndQ q.2.2.1 part 0 with
  | none =>
    rw [hf] at e218
    rw [hasL_none hf]
    exact rd_i rfl mB.k (clI_i e218 (it_t rfl (zo_i (Or.inl rfl) rfl)))
  | some p =>
    obtain ⟨t, -, ht, -⟩ := fndQ_some _ _ _ hf
    rw [Nat.sub_zero] at ht
    have hp : p < q.2.2.1.length := (List.getElem?_eq_some_iff.mp ht).1
    obtain ⟨w1, w2, w3, w4, w5, w6, w7, w8, w9⟩ := y6 p t ht
    rw [hf] at e218
    rw [hasL_some hf ht]
    have key : ∀ (c i : Nat) (b : Bool), c + i = t.2.2.2.2.1.length → rn PP 225 64 [some (pR (some m)), none, none, none, some (pJ nm), none, some (pI l6), some (pI lo), some (pI hi), some (pI (nI (6 * l + p))), some (pI (b32 b)), some (pI (nI i)), none, none] [] M = some (some (pI (b32 (b || (t.2.2.2.2.1.drop i).any P))), M) := by
      intro c
      induction c with
      | zero =>
        intro i b hi'
        rw [tX12_has_64, List.drop_of_length_le (by omega), List.any_nil, Bool.or_false]
        refine rd_i rfl mB.k (ix_m (n := 6 * l + p) mB.a39 rfl (by omega) (by omega) (it_t ?_ (zo_i (b32_01 b) rfl)))
        rw [w6]; exact nI_le (by omega) (by omega)
      | succ c ih =>
        intro i b hi'
        obtain ⟨r, hr, hd⟩ := drop_get (l := t.2.2.2.2.1) (i := i) (by omega)
        have i1 := ih (i + 1) true (by omega)
        have i0 := ih (i + 1) false (by omega)
        have e8 := w8 i r hr
        rw [tX12_has_64, hd, List.any_cons]
        refine rd_i rfl mB.k (ix_m (n := 6 * l + p) mB.a39 rfl (by omega) (by omega) (it_f ?_ (rd_i rfl mB.k (ix_m (n := 16 * (6 * l + p) + i) mB.a38 (m16 _ _) (by omega) (by omega) ?_))))
        · rw [w6]; exact nI_ge (by omega) (by omega)
        · rw [e8, nI_1]
          cases b with
          | true => exact it_t (by decide) i1
          | false =>
            rw [Bool.false_or]
            refine it_f (not_not_intro rfl) ?_
            rcases hP with ⟨rfl, -, hP⟩ | ⟨e, qe, rfl, he4, hqe, -, hP⟩
            · refine it_f (not_not_intro rfl) ?_
              by_cases ev : r = nm
              · rw [hP r, decide_eq_true ev]
                exact it_f (not_not_intro (cmp_eq0.mpr ev)) i1
              · rw [hP r, decide_eq_false ev]
                exact it_t (fun z => ev (cmp_eq0.mp z)) i0
            · have e165 := m_ordinal mB mE hqe r
              refine it_t (nI_m1 (by omega)) (rd_i rfl mB.k (clI_i e165 ?_))
              by_cases c1 : fndC qe.1 r 0 = -1
              · rw [hP r]
                unfold inRg
                rw [decide_eq_false (fun z => z.1 c1)]
                exact it_t c1 i0
              · refine it_f c1 (rd_i rfl mB.k (clI_i e165 (clI_i (m_in _ _ _ M) ?_)))
                rw [hP r]
                unfold inRg
                by_cases c2 : inB (fndC qe.1 r 0).toInt64 lo.toInt64 hi.toInt64 = 0
                · rw [decide_eq_false (fun z => by have := (in_rg _ _ _).mp c2; rcases this with y | y; exact z.2.1 y; exact z.2.2 y)]
                  exact it_t c2 i0
                · rw [decide_eq_true ⟨c1, fun z => c2 ((in_rg _ _ _).mpr (Or.inl z)), fun z => c2 ((in_rg _ _ _).mpr (Or.inr z))⟩]
                  exact it_f c2 i1
    have k0 := key t.2.2.2.2.1.length 0 false (by omega)
    rw [List.drop_zero, Bool.false_or] at k0
    have hp1 : ¬ kpI l (some p) = -1 := nI_m1 (by omega)
    refine rd_i rfl mB.k (clI_i e218 (it_f hp1 (rd_i rfl mB.k (ix_m (n := 6 * l + p) mB.a35 rfl (by omega) (by omega) ?_))))
    rw [w2]
    have fin : isNm t = true → (if l6 = -1 then rn PP 225 64 [some (pR (some m)), none, none, none, some (pJ nm), none, some (pI l6), some (pI lo), some (pI hi), some (pI (nI (6 * l + p))), some (pI 0), some (pI 0), none, none] [] M else rd (some m) 12 M fun a7 => ix 20 30 (gR M 819 a7) (kpI l (some p)) M fun a8 j9 => if aI M a8 j9 = l6 then rn PP 225 64 [some (pR (some m)), none, none, none, some (pJ nm), none, some (pI l6), some (pI lo), some (pI hi), some (pI (nI (6 * l + p))), some (pI 0), some (pI 0), none, none] [] M else zo 0 (some (some (pI 0), M))) = some (some (pI (b32 (oc t.2.2.1 && t.2.2.2.2.1.any P))), M) := fun hn => by
      rcases hP with ⟨rfl, hoc, hP⟩ | ⟨e, qe, rfl, he4, hqe, hoc, hP⟩
      · rw [hoc, Bool.true_and]
        exact it_t rfl k0
      · refine it_f (nI_m1 (by omega)) (rd_i rfl mB.k (ix_m (n := 6 * l + p) mB.a36 rfl (by omega) (by omega) ?_))
        rw [w3 (isNm_8 hn), hoc]
        by_cases eo : t.2.2.1 = nI e
        · rw [decide_eq_true eo, Bool.true_and]
          exact it_t eo k0
        · rw [decide_eq_false eo]
          exact it_f eo (zo_i (Or.inl rfl) rfl)
    by_cases h8 : t.2.1 = 8
    · have hn : isNm t = true := by unfold isNm; rw [decide_eq_true h8]; rfl
      rw [hn, Bool.true_and]
      exact it_t h8 (fin hn)
    · refine it_f h8 (rd_i rfl mB.k (ix_m (n := 6 * l + p) mB.a35 rfl (by omega) (by omega) ?_))
      rw [w2]
      by_cases h9 : t.2.1 = 9
      · have hn : isNm t = true := by unfold isNm; rw [decide_eq_true h9, Bool.or_true]
        rw [hn, Bool.true_and]
        exact it_f (not_not_intro h9) (fin hn)
      · have hn : isNm t = false := by unfold isNm; rw [decide_eq_false h8, decide_eq_false h9]; rfl
        rw [hn]
        exact it_t h9 (zo_i (Or.inl rfl) rfl)
theorem m_found {m : Nat} {part nm : Int64} {l6 lo hi i : Int32} {oc : Int32 → Bool} {P : Int64 → Bool} (mB : MB m M) (mE : ME m M E) (mL : ML m M T) (hP : AskP E l6 nm lo hi oc P) : ex 226 11 [pR (some m), pJ part, pJ nm, pI l6, pI lo, pI hi, pI i] M = some (some (pI (fdl (T.map (fun q => hasL q part oc P)) i 0 0)), M) := by
  have h64 := mL.2.1
  have key : ∀ (c k n : Nat), c + k = T.length → n ≤ k → rn PP 226 6 [some (pR (some m)), some (pJ part), none, some (pJ nm), none, some (pI l6), some (pI lo), some (pI hi), some (pI i), some (pI (nI n)), some (pI (nI k))] [] M = some (some (pI (fdl ((T.drop k).map (fun q => hasL q part oc P)) i k n)), M) := by
    intro c
    induction c with
    | zero =>
      intro k n hk hn
      rw [tX12_found_6, List.drop_of_length_le (by omega)]
      refine rd_i rfl mB.k ?_
      rw [mL.1]
      refine it_t (nI_le (by omega) (by omega)) ?_
      show _ = some (some (pI (if i = -1 then nI n else -1)), M)
      by_cases e : i = -1
      · rw [if_pos e]; exact it_f (not_not_intro e) rfl
      · rw [if_neg e]; exact it_t e rfl
    | succ c ih =>
      intro k n hk hn
      obtain ⟨q, hq, hd⟩ := drop_get (l := T) (i := k) (by omega)
      rw [tX12_found_6, hd, List.map_cons]
      refine rd_i rfl mB.k ?_
      rw [mL.1]
      refine it_f (nI_ge (by omega) (by omega)) (rd_i rfl mB.k (clI_i (m_has mB mE mL hq hP) ?_))
      show _ = some (some (pI (if hasL q part oc P = true then (if nI n = i then nI k else fdl ((T.drop (k + 1)).map (fun q => hasL q part oc P)) i (k + 1) (n + 1)) else fdl ((T.drop (k + 1)).map (fun q => hasL q part oc P)) i (k + 1) n)), M)
      cases hasL q part oc P with
      | false =>
        refine it_t rfl ?_
        rw [nI_1]
        exact ih (k + 1) n (by omega) (by omega)
      | true =>
        rw [if_pos rfl]
        refine it_f (by decide) ?_
        by_cases e : nI n = i
        · rw [if_pos e]; exact it_f (not_not_intro e) rfl
        · rw [if_neg e]
          refine it_t e ?_
          rw [nI_1, nI_1]
          exact ih (k + 1) (n + 1) (by omega) (by omega)
  rw [tX12_found]
  have := key T.length 0 0 (by omega) (by omega)
  rw [List.drop_zero] at this
  exact this
/-- found flags do not matter -/
theorem XI.f390 (h : XI x E R F W O T S jW jO M) (g : GI (fun j _ => j = 390) M M') : XI x E R F W O T S jW jO M' ∧ Fr x KX (AX x) (AX x) (AX x) 0 M M' := by
  obtain ⟨⟨hB, hv, hL⟩, h1, h2, h3, h4, h5, h6, h7⟩ := id h
  have f : Fr x (fun k => k = 390) No No No 0 M M' := g.fr hv hL (fun k a q => by omega)
  exact ⟨h.frL f (fun k q => by omega) (fun _ q => q.elim) (fun _ q => q.elim) (h6.fr f (by decide) id ⟨fun _ _ _ => id, fun _ _ => id⟩), f.mo (Nat.le_refl _) (fun k q => by subst q; decide) (fun _ q => q.elim) (fun _ q => q.elim) (fun _ q => q.elim)⟩
theorem op_word (h : Inv x E R F W O T S jW jO M) (part nm : Int64) (i : Int32) : Op x W O T jW jO M (fun M => ex 103 8 [pR (some x), pJ part, pJ nm, pI i] M) (fun M => ex 227 6 [pR (some (x + 12)), pJ part, pJ nm, pI i] M) := by
  obtain ⟨hX, hM, aw⟩ := id h
  obtain ⟨M1, e1, g1⟩ := c_word (part := part) (nm := nm) (i := i) hX
  obtain ⟨hX1, f1⟩ := hX.f390 g1
  refine Op.chg h e1 f1 hX1 (fun hM1 => ?_) aw (by omega)
  obtain ⟨mB, mE, -, -, -, -, mL, -⟩ := id hM1
  refine ⟨M1, ?_, CU.rf, hM1⟩
  show ex 227 6 [pR (some (x + 12)), pJ part, pJ nm, pI i] M1 = _
  rw [tX12_word]
  exact rd_i rfl mB.k (clI_i (m_found mB mE mL (Or.inl ⟨rfl, fun _ => rfl, fun _ => rfl⟩)) rfl)
theorem op_range (h : Inv x E R F W O T S jW jO M) (part : Int64) (e lo hi i : Int32) : Op x W O T jW jO M (fun M => ex 104 10 [pR (some x), pJ part, pI e, pI lo, pI hi, pI i] M) (fun M => ex 228 7 [pR (some (x + 12)), pJ part, pI e, pI lo, pI hi, pI i] M) := by
  obtain ⟨hX, hM, aw⟩ := id h
  obtain ⟨⟨hB, hv, hL⟩, hE, -, -, -, -, -, -⟩ := id hX
  obtain ⟨mB, mE, -, -, -, -, mL, -⟩ := id hM
  have hEl := mE.2.1
  rcases oob_or e E.length (by omega) with ho | ⟨k, hk, rfl⟩
  · refine Op.keep h (v := pI (-1)) ?_ ?_
    · show ex 104 10 [pR (some x), pJ part, pI e, pI lo, pI hi, pI i] M = _
      rw [tX11_range]
      exact rd_i rfl hB.k (clR_i (c_enumAt_no hB hE ho) (it_t rfl rfl))
    · show ex 228 7 [pR (some (x + 12)), pJ part, pI e, pI lo, pI hi, pI i] M = _
      rw [tX12_range]
      exact rd_i rfl mB.k (clI_i (m_isEnum_no mB mE ho) (it_t rfl rfl))
  obtain ⟨q, hq⟩ : ∃ q, E[k]? = some q := ⟨_, List.getElem?_eq_getElem hk⟩
  obtain ⟨a, c107, hxa, hc, -⟩ := c_enumAt hB hE hq
  obtain ⟨M1, e1, g1⟩ := c_range (part := part) (e := k) (lo := lo) (hi := hi) (i := i) hX hc
  obtain ⟨hX1, f1⟩ := hX.f390 g1
  refine Op.chg h (v := pI (fdl (T.map (fun q' => hasL q' part (fun o => decide (o = nI k)) (inRg q lo hi))) i 0 0)) (M1 := M1) ?_ f1 hX1 (fun hM1 => ?_) aw (by omega)
  · show ex 104 10 [pR (some x), pJ part, pI (nI k), pI lo, pI hi, pI i] M = _
    rw [tX11_range]
    exact rd_i rfl hB.k (clR_i c107 (it_f (fun q => nomatch q) e1))
  · obtain ⟨mB, mE, -, -, -, -, mL, -⟩ := id hM1
    refine ⟨M1, ?_, CU.rf, hM1⟩
    show ex 228 7 [pR (some (x + 12)), pJ part, pI (nI k), pI lo, pI hi, pI i] M1 = _
    rw [tX12_range]
    exact rd_i rfl mB.k (clI_i (m_isEnum mB mE hk) (it_f (by decide) (rd_i rfl mB.k (clI_i (m_found mB mE mL (Or.inr ⟨k, q, rfl, by omega, hq, fun _ => rfl, fun _ => rfl⟩)) rfl))))
end OPS
