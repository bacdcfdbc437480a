/-! CONSTRUCTING: the class -/
section OPS
variable {x : Nat} {E E' : List TE} {R R' : List TR} {F F' : List TF} {W W' : List TW} {O O' : List TO} {T T' : List TL} {S S' : TS} {jW jO jW' jO' n : Nat} {M M' M1 : Mem}
theorem stPs_c {t : TP} {ts : List TP} {v : Int64} {vs : List Int64} {p : Nat} : stPs (t :: ts) (v :: vs) p E S = if (stP E S t v).1 = 0 then stPs ts vs (p + 1) (stP E S t v).2.1 (stP E S t v).2.2 else (some ((stP E S t v).1, p), (stP E S t v).2.1, (stP E S t v).2.2) := by
  rw [stPs]
theorem stPs_n {vs : List Int64} {p : Nat} : stPs [] vs p E S = (none, E, S) := by
  cases vs <;> rfl
theorem c_con24 {r d a : Nat} {q : TR} {vs : List Int64} {l : Int32} (hq : R[r]? = some q) (hvl : vs.length = q.1.length) (hR6 : R.length ≤ 6) : ∀ (n p : Nat) (E : List TE) (S : TS) (M : Mem), n + p = q.1.length → XI x E R F W O T S jW jO M → AW E R F W O T S jW jO → E.length ≤ 4 → cR x M q a → V21 M d vs → ∃ M', XI x (stPs (q.1.drop p) (vs.drop p) p E S).2.1 R F W O T (stPs (q.1.drop p) (vs.drop p) p E S).2.2 jW jO M' ∧ Fr x K3 No (fun d => d = x + 6) No 0 M M' ∧ ((stPs (q.1.drop p) (vs.drop p) p E S).1 = none → rn PP 126 24 [some (pR (some x)), some (pI (nI r)), some (pR (some d)), some (pI l), some (pR (some a)), some (pI (nI p)), none, none, none] [] M = rn PP 126 86 [some (pR (some x)), some (pI (nI r)), some (pR (some d)), some (pI l), some (pR (some a)), some (pI 0), none, none, none] [] M') ∧ (∀ (c : Int32) (p' : Nat), (stPs (q.1.drop p) (vs.drop p) p E S).1 = some (c, p') → rn PP 126 24 [some (pR (some x)), some (pI (nI r)), some (pR (some d)), some (pI l), some (pR (some a)), some (pI (nI p)), none, none, none] [] M = clI (ex 127 6 [pR (some x), pI c, pI (nI r), pI (nI p'), pI (-1), pI l] M') fun r16 M14 => some (some (pI r16), M14)) := by
  intro n
  induction n with
  | zero =>
    intro p E S M hp hX aw hE4 hc hV
    have h1002 := hc.2.2.2.2.1.len
    rw [List.drop_of_length_le (show q.1.length ≤ p by omega), stPs_n]
    refine ⟨M, hX, Fr.rf hX.1.2.1 hX.1.2.2, fun _ => ?_, fun c p' z => nomatch z⟩
    rw [tX11_construct_24]
    exact rd_i rfl hc.1 (rd_i hc.2.1 hc.2.2.2.2.1.k (clI_i hc.2.2.2.2.1.size (it_t (nI_le (by omega) (by omega)) rfl)))
  | succ n ih =>
    intro p E S M hp hX aw hE4 hc hV
    have h1002 := hc.2.2.2.2.1.len
    have hV6 := hV.2.2.1
    obtain ⟨t, ht, hdt⟩ := drop_get (l := q.1) (i := p) (by omega)
    obtain ⟨v, hv', hdv⟩ := drop_get (l := vs) (i := p) (by omega)
    obtain ⟨k, hk1, hk2, hk3, -⟩ := isO.at hc.2.2.2.2.1 ht
    obtain ⟨M1, e119, hX1, f1⟩ := c_startFor (v := v) hX hk3 ((aw.1 r q hq).1 p t ht).1 aw.2.2.2.2.2.1 hE4 hR6
    obtain ⟨aw1, sh1⟩ := aw_stP (t := t) (v := v) aw
    have run : ∀ {rr : Option Rt}, (if (stP E S t v).1 = 0 then rn PP 126 24 [some (pR (some x)), some (pI (nI r)), some (pR (some d)), some (pI l), some (pR (some a)), some (pI (nI p + 1)), none, none, none] [] M1 else rd (some x) 11 M1 fun a15 => clI (ex 127 6 [pR (some a15), pI (stP E S t v).1, pI (nI r), pI (nI p), pI (-1), pI l] M1) fun r16 M14 => some (some (pI r16), M14)) = rr → rn PP 126 24 [some (pR (some x)), some (pI (nI r)), some (pR (some d)), some (pI l), some (pR (some a)), some (pI (nI p)), none, none, none] [] M = rr := fun {rr} hr => by
      rw [tX11_construct_24]
      refine rd_i rfl hc.1 (rd_i hc.2.1 hc.2.2.2.2.1.k (clI_i hc.2.2.2.2.1.size (it_f (nI_ge (by omega) (by omega)) (rd_i rfl hc.1 (rd_i hc.2.1 hc.2.2.2.2.1.k (clR_i hk1 (ck_s rfl hk3.1 (ix_i (n := p) rfl (Or.inl hV.1) rfl (by rw [hV.2.1]; omega) (by omega) (rd_i rfl hX.1.1.k ?_)))))))))
      rw [hV.2.2.2 p v hv']
      exact clI_i e119 hr
    rw [hdt, hdv, stPs_c]
    by_cases h0 : (stP E S t v).1 = 0
    · rw [if_pos h0]
      obtain ⟨M2, hX2, f2, n2, s2⟩ := ih (p + 1) _ _ M1 (by omega) hX1 aw1 (by rw [sh1.1]; exact hE4) (hc.fr f1 (by decide) ⟨id, id⟩) (hV.fr f1 id)
      refine ⟨M2, hX2, f1.tr f2, fun z => run (it_t h0 ?_), fun c p' z => run (it_t h0 ?_)⟩
      · rw [nI_1]; exact n2 z
      · rw [nI_1]; exact s2 c p' z
    · rw [if_neg h0]
      refine ⟨M1, hX1, f1, (fun z => nomatch z), fun c p' z => run (it_f h0 (rd_i rfl hX1.1.1.k ?_))⟩
      have z : some ((stP E S t v).1, p) = some (c, p') := z
      injection z with z
      injection z with z1 z2
      rw [z1, z2]
noncomputable def chs (E : List TE) (W : List TW) (O : List TO) (ps : List TP) (vs : List Int64) : List TK → Nat → Option (Int32 × Nat × Nat)
  | [], _ => none
  | c :: cs, k => if chV E W O c (ps.getD c.1 (0, 0, 0, 0)) (vs.getD c.1 0) = 0 then chs E W O ps vs cs (k + 1) else some (chV E W O c (ps.getD c.1 (0, 0, 0, 0)) (vs.getD c.1 0), c.1, k)
theorem chs_c {ps : List TP} {vs : List Int64} {c : TK} {cs : List TK} {k : Nat} {t : TP} {v : Int64} (ht : ps[c.1]? = some t) (hv : vs[c.1]? = some v) : chs E W O ps vs (c :: cs) k = if chV E W O c t v = 0 then chs E W O ps vs cs (k + 1) else some (chV E W O c t v, c.1, k) := by
  rw [chs, List.getD_eq_getElem?_getD, List.getD_eq_getElem?_getD, ht, hv]
  rfl
theorem wfO.r6 {nT : Nat} (h : wfO E R F W O nT) (hR6 : R.length ≤ 6) : ∀ (o' : Nat) (q : TO), O[o']? = some q → q.1 < 6 := fun o' q hq => by
  obtain ⟨rc, y1, -⟩ := h o' q hq
  have := (List.getElem?_eq_some_iff.mp y1).1
  omega
theorem c_con86 {r d a : Nat} {q : TR} {vs : List Int64} {l : Int32} (hX : XI x E R F W O T S jW jO M) (aw : AW E R F W O T S jW jO) (hq : R[r]? = some q) (hvl : vs.length = q.1.length) (hE4 : E.length ≤ 4) (hR6 : R.length ≤ 6) (hc : cR x M q a) (hV : V21 M d vs) (hval : ∀ (p : Nat) (t : TP) (v : Int64), q.1[p]? = some t → vs[p]? = some v → valOK E F W O O.length t.2.1 t.2.2.1 v) : ∀ (n k : Nat), n + k = q.2.1.length → (chs E W O q.1 vs (q.2.1.drop k) k = none → rn PP 126 86 [some (pR (some x)), some (pI (nI r)), some (pR (some d)), some (pI l), some (pR (some a)), some (pI (nI k)), none, none, none] [] M = clI (ex 132 4 [pR (some x), pI (nI r), pR (some d)] M) fun r7 M5 => some (some (pI r7), M5)) ∧ (∀ (c : Int32) (p k' : Nat), chs E W O q.1 vs (q.2.1.drop k) k = some (c, p, k') → rn PP 126 86 [some (pR (some x)), some (pI (nI r)), some (pR (some d)), some (pI l), some (pR (some a)), some (pI (nI k)), none, none, none] [] M = clI (ex 127 6 [pR (some x), pI c, pI (nI r), pI (nI p), pI (nI k'), pI l] M) fun r25 M23 => some (some (pI r25), M23)) := by
  have h1002 := hc.2.2.2.2.2.len
  have hV6 := hV.2.2.1
  intro n
  induction n with
  | zero =>
    intro k hk
    rw [List.drop_of_length_le (show q.2.1.length ≤ k by omega)]
    refine ⟨fun _ => ?_, fun c p k' z => nomatch z⟩
    rw [tX11_construct_86]
    exact rd_i rfl hc.1 (rd_i hc.2.2.1 hc.2.2.2.2.2.k (clI_i hc.2.2.2.2.2.size (it_t (nI_le (by omega) (by omega)) (rd_i rfl hX.1.1.k rfl))))
  | succ n ih =>
    intro k hk
    obtain ⟨c, hcc, hdc⟩ := drop_get (l := q.2.1) (i := k) (by omega)
    obtain ⟨t, ht, hck⟩ := (aw.1 r q hq).2 k c hcc
    have htl : c.1 < q.1.length := (List.getElem?_eq_some_iff.mp ht).1
    obtain ⟨v, hv⟩ : ∃ v, vs[c.1]? = some v := ⟨_, List.getElem?_eq_getElem (by omega)⟩
    obtain ⟨kc, g1, g2, g3, -⟩ := isO.at hc.2.2.2.2.2 hcc
    obtain ⟨kp, c65, -, g5, -⟩ := c_partAt hc ht
    have e128 := c_thrown hX hE4 hR6 g3 g5 hck (hval c.1 t v ht hv) (aw.2.2.2.1.r6 hR6)
    have run : ∀ {rr : Option Rt}, (if chV E W O c t v = 0 then rn PP 126 86 [some (pR (some x)), some (pI (nI r)), some (pR (some d)), some (pI l), some (pR (some a)), some (pI (nI k + 1)), none, none, none] [] M else rd (some kc) 1 M fun a22 => rd (some x) 11 M fun a24 => clI (ex 127 6 [pR (some a24), pI (chV E W O c t v), pI (nI r), pI (gI M 64 a22), pI (nI k), pI l] M) fun r25 M23 => some (some (pI r25), M23)) = rr → rn PP 126 86 [some (pR (some x)), some (pI (nI r)), some (pR (some d)), some (pI l), some (pR (some a)), some (pI (nI k)), none, none, none] [] M = rr := fun {rr} hr => by
      rw [tX11_construct_86]
      refine rd_i rfl hc.1 (rd_i hc.2.2.1 hc.2.2.2.2.2.k (clI_i hc.2.2.2.2.2.size (it_f (nI_ge (by omega) (by omega)) (rd_i rfl hc.1 (rd_i hc.2.2.1 hc.2.2.2.2.2.k (clR_i g1 (ck_s rfl g3.1 (rd_i rfl g3.1 (rd_i rfl hc.1 (clR_i (v := some kp) (M1 := M) (by rw [g3.2.1]; exact c65) (it_f (fun z => nomatch z) (rd_i rfl g3.1 (ix_i (n := c.1) rfl (Or.inl hV.1) g3.2.1 (by rw [hV.2.1]; omega) (by omega) (rd_i rfl hX.1.1.k ?_))))))))))))))
      rw [hV.2.2.2 c.1 v hv]
      exact clI_i e128 hr
    rw [hdc, chs_c ht hv]
    by_cases h0 : chV E W O c t v = 0
    · rw [if_pos h0]
      obtain ⟨y1, y2⟩ := ih (k + 1) (by omega)
      refine ⟨fun z => run (it_t h0 ?_), fun c' p k' z => run (it_t h0 ?_)⟩
      · rw [nI_1]; exact y1 z
      · rw [nI_1]; exact y2 c' p k' z
    · rw [if_neg h0]
      refine ⟨(fun z => nomatch z), fun c' p k' z => run (it_f h0 (rd_i rfl g3.1 (rd_i rfl hX.1.1.k ?_)))⟩
      injection z with z
      injection z with z1 z2
      injection z2 with z2 z3
      rw [g3.2.1, z1, z2, z3]
/-- what constructing does: what is thrown, or none; enumerations, records, the rest -/
noncomputable def con (E : List TE) (R : List TR) (W : List TW) (O : List TO) (S : TS) (r : Nat) (vs : List Int64) (l : Int32) : Option Int32 × List TE × List TR × TS :=
  match (stPs (R.getD r ([], [], 0)).1 vs 0 E (stR R S r).2).1 with
  | some (c, p) => (some c, (stPs (R.getD r ([], [], 0)).1 vs 0 E (stR R S r).2).2.1, (stR R S r).1, cau (stPs (R.getD r ([], [], 0)).1 vs 0 E (stR R S r).2).2.2 c (nI r) (nI p) (-1) l)
  | none => match chs (stPs (R.getD r ([], [], 0)).1 vs 0 E (stR R S r).2).2.1 W O (R.getD r ([], [], 0)).1 vs (R.getD r ([], [], 0)).2.1 0 with
    | some (c, p, k) => (some c, (stPs (R.getD r ([], [], 0)).1 vs 0 E (stR R S r).2).2.1, (stR R S r).1, cau (stPs (R.getD r ([], [], 0)).1 vs 0 E (stR R S r).2).2.2 c (nI r) (nI p) (nI k) l)
    | none => (none, (stPs (R.getD r ([], [], 0)).1 vs 0 E (stR R S r).2).2.1, (stR R S r).1, (stPs (R.getD r ([], [], 0)).1 vs 0 E (stR R S r).2).2.2)
theorem con_eq {r : Nat} {q : TR} {vs : List Int64} {l : Int32} (hq : R[r]? = some q) : (∀ (c : Int32) (p : Nat), (stPs q.1 vs 0 E (stR R S r).2).1 = some (c, p) → con E R W O S r vs l = (some c, (stPs q.1 vs 0 E (stR R S r).2).2.1, (stR R S r).1, cau (stPs q.1 vs 0 E (stR R S r).2).2.2 c (nI r) (nI p) (-1) l)) ∧ ((stPs q.1 vs 0 E (stR R S r).2).1 = none → (∀ (c : Int32) (p k : Nat), chs (stPs q.1 vs 0 E (stR R S r).2).2.1 W O q.1 vs q.2.1 0 = some (c, p, k) → con E R W O S r vs l = (some c, (stPs q.1 vs 0 E (stR R S r).2).2.1, (stR R S r).1, cau (stPs q.1 vs 0 E (stR R S r).2).2.2 c (nI r) (nI p) (nI k) l)) ∧ (chs (stPs q.1 vs 0 E (stR R S r).2).2.1 W O q.1 vs q.2.1 0 = none → con E R W O S r vs l = (none, (stPs q.1 vs 0 E (stR R S r).2).2.1, (stR R S r).1, (stPs q.1 vs 0 E (stR R S r).2).2.2))) := by
  have e : R.getD r ([], [], 0) = q := by rw [List.getD_eq_getElem?_getD, hq]; rfl
  unfold con
  rw [e]
  refine ⟨fun c p h => ?_, fun h => ⟨fun c p k h2 => ?_, fun h2 => ?_⟩⟩
  · rw [h]
  · rw [h]
    show (match chs (stPs q.1 vs 0 E (stR R S r).2).2.1 W O q.1 vs q.2.1 0 with | some (c, p, k) => _ | none => _) = _
    rw [h2]
  · rw [h]
    show (match chs (stPs q.1 vs 0 E (stR R S r).2).2.1 W O q.1 vs q.2.1 0 with | some (c, p, k) => _ | none => _) = _
    rw [h2]
theorem aw_cau {c r p k l : Int32} (aw : AW E R F W O T S jW jO) : AW E R F W O T (cau S c r p k l) jW jO := aw_sh aw shE.rf shR.rf aw.2.2.2.2.2.1 rfl rfl rfl
theorem con3 {r : Nat} {q : TR} {vs : List Int64} {l : Int32} (hq : R[r]? = some q) : (∃ c p, (stPs q.1 vs 0 E (stR R S r).2).1 = some (c, p)) ∨ ((stPs q.1 vs 0 E (stR R S r).2).1 = none ∧ ∃ c p k, chs (stPs q.1 vs 0 E (stR R S r).2).2.1 W O q.1 vs q.2.1 0 = some (c, p, k)) ∨ ((stPs q.1 vs 0 E (stR R S r).2).1 = none ∧ chs (stPs q.1 vs 0 E (stR R S r).2).2.1 W O q.1 vs q.2.1 0 = none) := by
  cases h : (stPs q.1 vs 0 E (stR R S r).2).1 with
  | some c => exact Or.inl ⟨c.1, c.2, rfl⟩
  | none =>
    cases h2 : chs (stPs q.1 vs 0 E (stR R S r).2).2.1 W O q.1 vs q.2.1 0 with
    | some c => exact Or.inr (Or.inl ⟨rfl, c.1, c.2.1, c.2.2, rfl⟩)
    | none => exact Or.inr (Or.inr ⟨rfl, rfl⟩)
theorem aw_con {r : Nat} {q : TR} {vs : List Int64} {l : Int32} (hq : R[r]? = some q) (aw : AW E R F W O T S jW jO) : AW (con E R W O S r vs l).2.1 (con E R W O S r vs l).2.2.1 F W O T (con E R W O S r vs l).2.2.2 jW jO ∧ shE E (con E R W O S r vs l).2.1 ∧ shR R (con E R W O S r vs l).2.2.1 := by
  obtain ⟨c1, c2⟩ := con_eq (E := E) (W := W) (O := O) (S := S) (vs := vs) (l := l) hq
  obtain ⟨a1, a2⟩ := aw_stR aw r
  obtain ⟨b1, b2⟩ := aw_stPs q.1 vs 0 E _ a1
  rcases con3 (E := E) (W := W) (O := O) (S := S) (vs := vs) (l := l) hq with ⟨c, p, h⟩ | ⟨h, c, p, k, h2⟩ | ⟨h, h2⟩
  · rw [c1 c p h]
    exact ⟨aw_cau b1, b2, a2⟩
  · rw [(c2 h).1 c p k h2]
    exact ⟨aw_cau b1, b2, a2⟩
  · rw [(c2 h).2 h2]
    exact ⟨b1, b2, a2⟩
abbrev KM : Nat → Prop := fun k => k = 194 ∨ k = 195 ∨ k = 715 ∨ k = 578 ∨ k = 448 ∨ k = 451 ∨ k = 711
theorem c_construct {r d : Nat} {q : TR} {vs : List Int64} {l : Int32} (hX : XI x E R F W O T S jW jO M) (aw : AW E R F W O T S jW jO) (hq : R[r]? = some q) (hvl : vs.length = q.1.length) (hE4 : E.length ≤ 4) (hR6 : R.length ≤ 6) (hO : O.length ≤ 1000) (hV : V21 M d vs) (hval : ∀ (p : Nat) (t : TP) (v : Int64), q.1[p]? = some t → vs[p]? = some v → valOK E F W O O.length t.2.1 t.2.2.1 v) : (∃ c M', (con E R W O S r vs l).1 = some c ∧ ex 126 9 [pR (some x), pI (nI r), pR (some d), pI l] M = some (some (pI (-10 - c)), M') ∧ XI x (con E R W O S r vs l).2.1 (con E R W O S r vs l).2.2.1 F W O T (con E R W O S r vs l).2.2.2 jW jO M' ∧ Fr x KM (fun l => l = x + 5) (fun d => d = x + 6 ∨ d = x + 9) (JO x M) 0 M M') ∨ (∃ tw M', (con E R W O S r vs l).1 = none ∧ ex 126 9 [pR (some x), pI (nI r), pR (some d), pI l] M = some (some (pI (nI O.length)), M') ∧ XI x (con E R W O S r vs l).2.1 (con E R W O S r vs l).2.2.1 F W (O ++ [(r, vs, -1, tw)]) T (con E R W O S r vs l).2.2.2 jW (jO - 1) M' ∧ Fr x KM (fun l => l = x + 5) (fun d => d = x + 6 ∨ d = x + 9) (JO x M) (if jO = 0 then 26 else 0) M M') := by
  obtain ⟨⟨hB, hv, hL⟩, -, hR, -, -, -, -, -⟩ := id hX
  obtain ⟨a, c108, hxa, hc, -, g16⟩ := c_recAt hB hR hq
  obtain ⟨M1, e116, hX1, f1⟩ := c_startR hX hq c108 aw.2.2.2.2.2.1 hE4 hR6
  obtain ⟨a1, a2⟩ := aw_stR aw r
  obtain ⟨q', hq', hqp, hqc⟩ := a2.2 r q hq
  have hc1 : cR x M1 q' a := (isO.stay hR hX1.2.2.1 (f1.ls id) hq hq' g16).2.2
  have hV1 := hV.fr f1 id
  obtain ⟨M2, hX2, f2, n2, s2⟩ := c_con24 (l := l) (d := d) (vs := vs) hq' (by rw [hqp]; exact hvl) (by rw [a2.1]; exact hR6) q'.1.length 0 E _ M1 (by omega) hX1 a1 hE4 hc1 hV1
  rw [List.drop_zero, List.drop_zero, hqp] at hX2 n2 s2
  obtain ⟨b1, b2⟩ := aw_stPs q.1 vs 0 E _ a1
  have hc2 : cR x M2 q' a := hc1.fr f2 (by decide) ⟨id, id⟩
  have hV2 := hV1.fr f2 id
  have fr : Fr x KM (fun l => l = x + 5) (fun d => d = x + 6 ∨ d = x + 9) (JO x M) 0 M M2 := (f1.mo (n' := 0) (Nat.le_refl _) (fun k q => by omega) (fun _ q => q.elim) (fun _ q => Or.inl q) (fun _ q => q.elim)).tr (f2.mo (n' := 0) (Nat.le_refl _) (fun k q => by omega) (fun _ q => q.elim) (fun _ q => Or.inl q) (fun _ q => q.elim))
  have run : ∀ {rr : Option Rt}, rn PP 126 24 [some (pR (some x)), some (pI (nI r)), some (pR (some d)), some (pI l), some (pR (some a)), some (pI 0), none, none, none] [] M1 = rr → ex 126 9 [pR (some x), pI (nI r), pR (some d), pI l] M = rr := fun {rr} hr => by
    rw [tX11_construct]
    exact rd_i rfl hB.k (clR_i c108 (it_f (fun z => nomatch z) (rd_i rfl hB.k (clV_i e116 hr))))
  obtain ⟨c1, c2⟩ := con_eq (E := E) (W := W) (O := O) (S := S) (vs := vs) (l := l) hq
  have fail : ∀ (c p k : Int32), (∀ {rr : Option Rt}, (clI (ex 127 6 [pR (some x), pI c, pI (nI r), pI p, pI k, pI l] M2) fun r16 M14 => some (some (pI r16), M14)) = rr → ex 126 9 [pR (some x), pI (nI r), pR (some d), pI l] M = rr) → con E R W O S r vs l = (some c, (stPs q.1 vs 0 E (stR R S r).2).2.1, (stR R S r).1, cau (stPs q.1 vs 0 E (stR R S r).2).2.2 c (nI r) p k l) → ∃ c M', (con E R W O S r vs l).1 = some c ∧ ex 126 9 [pR (some x), pI (nI r), pR (some d), pI l] M = some (some (pI (-10 - c)), M') ∧ XI x (con E R W O S r vs l).2.1 (con E R W O S r vs l).2.2.1 F W O T (con E R W O S r vs l).2.2.2 jW jO M' ∧ Fr x KM (fun l => l = x + 5) (fun d => d = x + 6 ∨ d = x + 9) (JO x M) 0 M M' := fun c p k hr he => by
    obtain ⟨M3, e127, hX3, f3⟩ := c_failed (c := c) (r := nI r) (p := p) (k := k) (l := l) hX2
    rw [he]
    exact ⟨c, M3, rfl, hr (clI_i e127 rfl), hX3, fr.tr (f3.mo (n' := 0) (Nat.le_refl _) (fun _ q => q.elim) (fun _ q => q.elim) (fun _ q => Or.inr q) (fun _ q => q.elim))⟩
  rcases con3 (E := E) (W := W) (O := O) (S := S) (vs := vs) (l := l) hq with ⟨c, p, h⟩ | ⟨h, c, p, k, h2⟩ | ⟨h, h2⟩
  · exact Or.inl (fail c (nI p) (-1) (fun {rr} hr => run ((s2 c p h).trans hr)) (c1 c p h))
  · have k86 := c_con86 (l := l) (d := d) (vs := vs) hX2 b1 hq' (by rw [hqp]; exact hvl) (by rw [b2.1]; exact hE4) (by rw [a2.1]; exact hR6) hc2 hV2 (fun p t v ht hv => (hval p t v (by rw [← hqp]; exact ht) hv).sh b2) q'.2.1.length 0 (by omega)
    rw [List.drop_zero, hqp, hqc] at k86
    exact Or.inl (fail c (nI p) (nI k) (fun {rr} hr => run ((n2 h).trans ((k86.2 c p k h2).trans hr))) ((c2 h).1 c p k h2))
  · have k86 := c_con86 (l := l) (d := d) (vs := vs) hX2 b1 hq' (by rw [hqp]; exact hvl) (by rw [b2.1]; exact hE4) (by rw [a2.1]; exact hR6) hc2 hV2 (fun p t v ht hv => (hval p t v (by rw [← hqp]; exact ht) hv).sh b2) q'.2.1.length 0 (by omega)
    rw [List.drop_zero, hqp, hqc] at k86
    obtain ⟨M3, tw, e132, hX3, f3⟩ := c_addObject (r := r) hX2 hV2.1 hV2.2.1 hV2.2.2.1 hV2.2.2.2 hO
    rw [(c2 h).2 h2]
    refine Or.inr ⟨tw, M3, rfl, run ((n2 h).trans ((k86.1 h2).trans (clI_i e132 rfl))), hX3, ?_⟩
    have := fr.trN (f3.mo (K' := KM) (n' := if jO = 0 then 26 else 0) (Nat.le_refl _) (fun k q => by omega) (fun _ => id) (fun _ => id) (fun _ => id)) (fun _ => id) (fun _ _ => id) (fun _ _ q => q.elim) (fun d hd q => ⟨q.1, by rw [← fr.fk (show d - 1 < mT M by omega)]; exact q.2⟩)
    rw [Nat.zero_add] at this
    exact this
end OPS
