/-! WHAT FITS A PART -/
section OPS
variable {x : Nat} {E E' : List TE} {R R' : List TR} {F F' : List TF} {W W' : List TW} {O O' : List TO} {T T' : List TL} {S S' : TS} {jW jO jW' jO' n : Nat} {M M' M1 : Mem}
theorem l_or (v : Int64) {n : Nat} (hn : n < 2147483648) : (v < 0 ∨ lN n ≤ v) ∨ ∃ k, k < n ∧ v = lN k := by
  by_cases h0 : v < 0
  · exact Or.inl (Or.inl h0)
  · by_cases h1 : lN n ≤ v
    · exact Or.inl (Or.inr h1)
    · refine Or.inr ⟨v.toInt.toNat, ?_, ?_⟩
      · rw [I64_le, lN_toInt (by omega)] at h1
        rw [I64_lt, show (0 : Int64).toInt = 0 from rfl] at h0
        omega
      · rw [I64_le, lN_toInt (by omega)] at h1
        rw [I64_lt, show (0 : Int64).toInt = 0 from rfl] at h0
        apply Int64.toInt_inj.mp
        rw [lN_toInt (by omega)]
        omega
theorem lN_ne {k : Nat} (h : k < 2147483648) : ¬ lN k = -1 := fun z => by
  have := congrArg Int64.toInt z
  rw [lN_toInt (by omega), show (-1 : Int64).toInt = -1 from rfl] at this
  omega
theorem lN_nn {k : Nat} (h : k < 2147483648) : ¬ lN k < 0 := fun z => by
  rw [I64_lt, lN_toInt (by omega), show (0 : Int64).toInt = 0 from rfl] at z
  omega
theorem lN_inj {a b : Nat} (ha : a < 2147483648) (hb : b < 2147483648) (h : lN a = lN b) : a = b := by
  have := congrArg Int64.toInt h
  rw [lN_toInt (by omega), lN_toInt (by omega)] at this
  omega
theorem inL_no {v : Int64} {n : Nat} (hn : n < 2147483648) (h : v < 0 ∨ lN n ≤ v) : inB v 0 (nI n - 1).toInt64 = 0 := by
  refine if_neg (fun q => ?_)
  obtain ⟨q1, q2⟩ := q
  rw [I64_le, show (0 : Int64).toInt = 0 from rfl] at q1
  rw [I64_le, Int32.toInt_toInt64, nIm1 hn] at q2
  rcases h with h | h
  · rw [I64_lt, show (0 : Int64).toInt = 0 from rfl] at h; omega
  · rw [I64_le, lN_toInt (by omega)] at h; omega
theorem inL_yes {k n : Nat} (hn : n < 2147483648) (h : k < n) : inB (lN k) 0 (nI n - 1).toInt64 = 1 := by
  refine if_pos ⟨?_, ?_⟩
  · rw [I64_le, lN_toInt (by omega), show (0 : Int64).toInt = 0 from rfl]; omega
  · rw [I64_le, Int32.toInt_toInt64, nIm1 hn, lN_toInt (by omega)]; omega
/-- a value fits a part of sort s, of f -/
def gV (E : List TE) (F : List TF) (W : List TW) (O : List TO) (s f : Int32) (v : Int64) : Prop := (s = 8 → v = -1 ∨ ∃ e q c, f = nI e ∧ E[e]? = some q ∧ c < q.1.length ∧ v = lN c) ∧ (s = 9 → ∃ e q, f = nI e ∧ E[e]? = some q ∧ v.toUInt64.toNat < 2 ^ q.1.length) ∧ (s = 10 → v = -1 ∨ ∃ r w, W[r]? = some w ∧ v = lN r ∧ w.1 = f) ∧ (s = 11 → v = -1 ∨ ∃ o' q' g fq, o' < O.length ∧ O[o']? = some q' ∧ v = lN o' ∧ f = nI g ∧ F[g]? = some fq ∧ nI q'.1 ∈ fq.2)
theorem gV_val {s f : Int32} {v : Int64} (hs : 0 ≤ s) (h : gV E F W O s f v) : valOK E F W O O.length s f (shp s v) := by
  obtain ⟨h1, h2, h3, h4⟩ := h
  have e : s = 8 ∨ s = 9 ∨ s = 10 ∨ s = 11 → shp s v = v := fun z => by
    rcases z with rfl | rfl | rfl | rfl <;> rfl
  exact ⟨fun _ => shp_idem s v, fun z => by rw [e (Or.inl z)]; exact h1 z, fun z => by rw [e (Or.inr (Or.inl z))]; exact h2 z, fun z => by rw [e (Or.inr (Or.inr (Or.inl z)))]; exact (h3 z).elim Or.inl (fun ⟨r, w, y1, y2, _⟩ => Or.inr ⟨r, w, y1, y2, trivial⟩), fun z => by rw [e (Or.inr (Or.inr (Or.inr z)))]; exact h4 z⟩
theorem c_isOfFam {a k : Nat} {q : TO} {fq : TF} (hB : XB x M) (hF : XF x M F) (hk : F[k]? = some fq) (ho : cO M (some q) a) (hl : fq.2.length ≤ 6) : ex 125 4 [pR (some x), pR (some a), pI (nI k)] M = some (some (pI (if nI q.1 ∈ fq.2 then 1 else 0)), M) := by
  obtain ⟨fa, c109, -, cf, -, -⟩ := c_famAt hB hF hk
  have hm := fndI_mem (c := nI q.1) fq.2 0 (by omega)
  rw [tX11_isOfFamily]
  refine rd_i rfl hB.k (clR_i c109 (it_f (fun z => nomatch z) (rd_i rfl ho.1 (rd_i rfl cf.1 ?_))))
  rw [(ho.2.2.2.2 q rfl).1]
  refine clI_i (c_tagOf cf _) ?_
  by_cases c : nI q.1 ∈ fq.2
  · rw [if_pos c]
    exact it_f (fun z => hm.mp z c) (zo_i (Or.inr rfl) rfl)
  · rw [if_neg c]
    exact it_t (hm.mpr c) (zo_i (Or.inl rfl) rfl)
theorem shr_lt {v : Int64} {n : Nat} (hn : n < 60) : lg_cmp ((v.toUInt64 >>> ((nI n).toInt64.toUInt64 &&& Int64.toUInt64 63)).toInt64) (0 : Int64) = 0 ↔ v.toUInt64.toNat < 2 ^ n := by
  rw [cmp_eq0]
  have e := N64_shr (s := v) (d := n) (by omega)
  constructor
  · intro h
    rw [h] at e
    have e : 0 = N64 v / 2 ^ n := e
    exact (Nat.div_eq_zero_iff_lt (Nat.two_pow_pos n)).mp e.symm
  · intro h
    apply N64_inj
    rw [e]
    exact (Nat.div_eq_zero_iff_lt (Nat.two_pow_pos n)).mpr h
theorem c_fits {t : TP} {k : Nat} {v : Int64} (hX : XI x E R F W O T S jW jO M) (hE4 : E.length ≤ 4) (hE8 : ∀ (e : Nat) (q : TE), E[e]? = some q → q.1.length ≤ 8) (hF6 : ∀ (e : Nat) (q : TF), F[e]? = some q → q.2.length ≤ 6) (hp : cP M t k) (hs : srtOK E.length F.length t.2.1 t.2.2.1) : (gV E F W O t.2.1 t.2.2.1 v → ex 122 5 [pR (some x), pR (some k), pJ v] M = some (some (pI 1), M)) ∧ (¬ gV E F W O t.2.1 t.2.2.1 v → ex 122 5 [pR (some x), pR (some k), pJ v] M = some (some (pI 0), M)) := by
  obtain ⟨⟨hB, -, -⟩, hE, -, hF, hW, hO, -, -⟩ := id hX
  obtain ⟨p1, p2, p3, p4, p5⟩ := hp
  obtain ⟨s1, s2, s3, s4, s5⟩ := hs
  have hWl := hW.len0
  have hOl := hO.len0
  rw [tX11_fits]
  by_cases h9 : t.2.1 = 9
  · obtain ⟨e, he, hf⟩ := s3 (Or.inr h9)
    obtain ⟨q, hq⟩ : ∃ q, E[e]? = some q := ⟨_, List.getElem?_eq_getElem he⟩
    obtain ⟨a, c107, -, ⟨c1, c2, -, -, -, c6⟩, -⟩ := c_enumAt hB hE hq
    have h8 := hE8 e q hq
    have o9 : gI M 514 k = nI e := by rw [p4 (by rw [h9]; decide)]; exact hf
    have iff9 : gV E F W O t.2.1 t.2.2.1 v ↔ v.toUInt64.toNat < 2 ^ q.1.length := by
      constructor
      · intro g
        obtain ⟨e', q', y1, y2, y3⟩ := g.2.1 h9
        have he' : e' < E.length := (List.getElem?_eq_some_iff.mp y2).1
        rw [hf] at y1
        have := nI_inj (by omega) (by omega) y1
        subst this
        rw [hq] at y2
        cases y2
        exact y3
      · intro g
        refine ⟨fun z => ?_, fun _ => ⟨e, q, hf, hq, g⟩, fun z => ?_, fun z => ?_⟩
        all_goals (rw [h9] at z; exact absurd z (by decide))
    have e124 : ex 124 5 [pR (some x), pI (nI e), pJ v] M = some (some (pI (if v.toUInt64.toNat < 2 ^ q.1.length then 1 else 0)), M) := by
      rw [tX11_enumerationHolds]
      refine rd_i rfl hB.k (clR_i c107 (it_f (fun z => nomatch z) (rd_i rfl c1 (rd_i c2 c6.k (clI_i c6.size ?_)))))
      by_cases c : v.toUInt64.toNat < 2 ^ q.1.length
      · rw [if_pos c]
        exact it_f (not_not_intro ((shr_lt (by omega)).mpr c)) (zo_i (Or.inr rfl) rfl)
      · rw [if_neg c]
        exact it_t (fun z => c ((shr_lt (by omega)).mp z)) (zo_i (Or.inl rfl) rfl)
    rw [iff9]
    refine ⟨fun g => ?_, fun g => ?_⟩
    · rw [if_pos g] at e124
      refine rd_i rfl p1 (it_f (not_not_intro (p3.trans h9)) (rd_i rfl p1 (rd_i rfl hB.k ?_)))
      rw [o9]
      exact clI_i e124 (zo_i (Or.inr rfl) rfl)
    · rw [if_neg g] at e124
      refine rd_i rfl p1 (it_f (not_not_intro (p3.trans h9)) (rd_i rfl p1 (rd_i rfl hB.k ?_)))
      rw [o9]
      exact clI_i e124 (zo_i (Or.inl rfl) rfl)
  have pre : ∀ {r : Option Rt}, (if t.2.1 < 8 then zo 1 (some (some (pI 1), M)) else if ¬ lg_cmp v (-1 : Int64) = 0 then rd (some k) 8 M fun a3 => if ¬ gI M 513 a3 = 8 then rd (some k) 8 M fun a4 => if ¬ gI M 513 a4 = 10 then rd (some x) 11 M fun a6 => clR (ex 111 3 [pR (some a6), pJ v] M) fun r7 M5 => if r7 = none then zo 0 (some (some (pI 0), M5)) else rd (some k) 8 M5 fun a8 => rd (some x) 11 M5 fun a10 => clI (ex 125 4 [pR (some a10), pR r7, pI (gI M5 514 a8)] M5) fun r11 M9 => if r11 = 0 then zo 0 (some (some (pI 0), M9)) else zo 1 (some (some (pI 1), M9)) else rd (some x) 11 M fun a13 => clR (ex 110 3 [pR (some a13), pJ v] M) fun r14 M12 => if r14 = none then zo 0 (some (some (pI 0), M12)) else rd r14 10 M12 fun a15 => rd (some k) 8 M12 fun a16 => if ¬ gI M12 640 a15 = gI M12 514 a16 then zo 0 (some (some (pI 0), M12)) else zo 1 (some (some (pI 1), M12)) else rd (some k) 8 M fun a17 => rd (some x) 11 M fun a19 => clI (ex 123 5 [pR (some a19), pI (gI M 514 a17), pJ v] M) fun r20 M18 => zo r20 (some (some (pI r20), M18)) else zo 1 (some (some (pI 1), M))) = r → (rd (some k) 8 M fun a1 => if ¬ gI M 513 a1 = 9 then rd (some k) 8 M fun a2 => if gI M 513 a2 < 8 then zo 1 (some (some (pI 1), M)) else if ¬ lg_cmp v (-1 : Int64) = 0 then rd (some k) 8 M fun a3 => if ¬ gI M 513 a3 = 8 then rd (some k) 8 M fun a4 => if ¬ gI M 513 a4 = 10 then rd (some x) 11 M fun a6 => clR (ex 111 3 [pR (some a6), pJ v] M) fun r7 M5 => if r7 = none then zo 0 (some (some (pI 0), M5)) else rd (some k) 8 M5 fun a8 => rd (some x) 11 M5 fun a10 => clI (ex 125 4 [pR (some a10), pR r7, pI (gI M5 514 a8)] M5) fun r11 M9 => if r11 = 0 then zo 0 (some (some (pI 0), M9)) else zo 1 (some (some (pI 1), M9)) else rd (some x) 11 M fun a13 => clR (ex 110 3 [pR (some a13), pJ v] M) fun r14 M12 => if r14 = none then zo 0 (some (some (pI 0), M12)) else rd r14 10 M12 fun a15 => rd (some k) 8 M12 fun a16 => if ¬ gI M12 640 a15 = gI M12 514 a16 then zo 0 (some (some (pI 0), M12)) else zo 1 (some (some (pI 1), M12)) else rd (some k) 8 M fun a17 => rd (some x) 11 M fun a19 => clI (ex 123 5 [pR (some a19), pI (gI M 514 a17), pJ v] M) fun r20 M18 => zo r20 (some (some (pI r20), M18)) else zo 1 (some (some (pI 1), M)) else rd (some k) 8 M fun a21 => rd (some x) 11 M fun a23 => clI (ex 124 5 [pR (some a23), pI (gI M 514 a21), pJ v] M) fun r24 M22 => zo r24 (some (some (pI r24), M22))) = r := fun {r} hr => by
    refine rd_i rfl p1 (it_t (fun z => h9 (p3.symm.trans z)) (rd_i rfl p1 ?_))
    rw [p3]
    exact hr
  by_cases h8 : t.2.1 < 8
  · have g : gV E F W O t.2.1 t.2.2.1 v := by
      refine ⟨fun z => ?_, fun z => ?_, fun z => ?_, fun z => ?_⟩
      all_goals (rw [z] at h8; exact absurd h8 (by decide))
    exact ⟨fun _ => pre (it_t h8 (zo_i (Or.inr rfl) rfl)), fun z => absurd g z⟩
  have o8 : gI M 514 k = t.2.2.1 := p4 (ge8.mpr h8)
  by_cases hm : v = -1
  · have g : gV E F W O t.2.1 t.2.2.1 v := ⟨fun _ => Or.inl hm, fun z => absurd z h9, fun _ => Or.inl hm, fun _ => Or.inl hm⟩
    exact ⟨fun _ => pre (it_f h8 (it_f (not_not_intro (cmp_eq0.mpr hm)) (zo_i (Or.inr rfl) rfl))), fun z => absurd g z⟩
  have hm' : ¬ lg_cmp v (-1 : Int64) = 0 := fun z => hm (cmp_eq0.mp z)
  by_cases e8 : t.2.1 = 8
  · obtain ⟨e, he, hf⟩ := s3 (Or.inl e8)
    obtain ⟨q, hq⟩ : ∃ q, E[e]? = some q := ⟨_, List.getElem?_eq_getElem he⟩
    obtain ⟨a, c107, -, ⟨c1, c2, -, -, -, c6⟩, -⟩ := c_enumAt hB hE hq
    have h8' := hE8 e q hq
    have run : ∀ b : Int32, (b = 0 ∨ b = 1) → ex 123 5 [pR (some x), pI (nI e), pJ v] M = some (some (pI b), M) → _ = (some (some (pI b), M) : Option Rt) := fun b hb e123 => pre (it_f h8 (it_t hm' (rd_i rfl p1 (it_f (not_not_intro (p3.trans e8)) (rd_i rfl p1 (rd_i rfl hB.k (clI_i (by rw [o8, hf]; exact e123) (zo_i hb rfl))))))))
    rcases l_or v (n := q.1.length) (by omega) with hv | ⟨c, hc, rfl⟩
    · have e123 : ex 123 5 [pR (some x), pI (nI e), pJ v] M = some (some (pI 0), M) := by
        rw [tX11_isOrdinal]
        refine rd_i rfl hB.k (clR_i c107 (it_f (fun z => nomatch z) ?_))
        by_cases h0 : v < 0
        · exact it_t (cmp_lt0.mpr h0) (zo_i (Or.inl rfl) rfl)
        · refine it_f (fun z => h0 (cmp_lt0.mp z)) (rd_i rfl c1 (rd_i c2 c6.k (clI_i c6.size (it_t ?_ (zo_i (Or.inl rfl) rfl)))))
          rw [nI_l (by omega), cmp_ge0]
          exact hv.resolve_left h0
      have ng : ¬ gV E F W O t.2.1 t.2.2.1 v := fun g => by
        rcases g.1 e8 with z | ⟨e', q', c, y1, y2, y3, y4⟩
        · exact hm z
        · have he' : e' < E.length := (List.getElem?_eq_some_iff.mp y2).1
          rw [hf] at y1
          have := nI_inj (by omega) (by omega) y1
          subst this
          rw [hq] at y2
          cases y2
          rw [y4] at hv
          rcases hv with hv | hv
          · exact lN_nn (by omega) hv
          · rw [lN_le (by omega) (by omega)] at hv; omega
      exact ⟨fun g => absurd g ng, fun _ => run 0 (Or.inl rfl) e123⟩
    · have e123 : ex 123 5 [pR (some x), pI (nI e), pJ (lN c)] M = some (some (pI 1), M) := by
        rw [tX11_isOrdinal]
        refine rd_i rfl hB.k (clR_i c107 (it_f (fun z => nomatch z) (it_f (fun z => lN_nn (by omega) (cmp_lt0.mp z)) (rd_i rfl c1 (rd_i c2 c6.k (clI_i c6.size (it_f (fun z => ?_) (zo_i (Or.inr rfl) rfl))))))))
        rw [nI_l (by omega), cmp_ge0, lN_le (by omega) (by omega)] at z
        omega
      have g : gV E F W O t.2.1 t.2.2.1 (lN c) := ⟨fun _ => Or.inr ⟨e, q, c, hf, hq, hc, rfl⟩, fun z => absurd z h9, fun z => by rw [e8] at z; exact absurd z (by decide), fun z => by rw [e8] at z; exact absurd z (by decide)⟩
      exact ⟨fun _ => run 1 (Or.inr rfl) e123, fun ng => absurd g ng⟩
  by_cases e10 : t.2.1 = 10
  · have run : ∀ r : Option Rt, (clR (ex 110 3 [pR (some x), pJ v] M) fun r14 M12 => if r14 = none then zo 0 (some (some (pI 0), M12)) else rd r14 10 M12 fun a15 => rd (some k) 8 M12 fun a16 => if ¬ gI M12 640 a15 = gI M12 514 a16 then zo 0 (some (some (pI 0), M12)) else zo 1 (some (some (pI 1), M12))) = r → _ = r := fun r hr => pre (it_f h8 (it_t hm' (rd_i rfl p1 (it_t (fun z => e8 (p3.symm.trans z)) (rd_i rfl p1 (it_f (not_not_intro (p3.trans e10)) (rd_i rfl hB.k hr)))))))
    rcases l_or v (n := W.length) (by omega) with hv | ⟨c, hc, rfl⟩
    · have ng : ¬ gV E F W O t.2.1 t.2.2.1 v := fun g => by
        rcases g.2.2.1 e10 with z | ⟨r, w, y1, y2, y3⟩
        · exact hm z
        · have hr : r < W.length := (List.getElem?_eq_some_iff.mp y1).1
          rw [y2] at hv
          rcases hv with hv | hv
          · exact lN_nn (by omega) hv
          · rw [lN_le (by omega) (by omega)] at hv; omega
      exact ⟨fun g => absurd g ng, fun _ => run _ (clR_i (c_rowAt_no hB hW hv) (it_t rfl (zo_i (Or.inl rfl) rfl)))⟩
    · obtain ⟨w, hw⟩ : ∃ w, W[c]? = some w := ⟨_, List.getElem?_eq_getElem hc⟩
      obtain ⟨ka, c110, -, cw⟩ := c_rowAt hB hW hw
      have lw := (cw.2.2.2.2 w rfl).1
      have ig : gV E F W O t.2.1 t.2.2.1 (lN c) ↔ w.1 = t.2.2.1 := by
        constructor
        · intro g
          rcases g.2.2.1 e10 with z | ⟨r, w', y1, y2, y3⟩
          · exact absurd z hm
          · have hr : r < W.length := (List.getElem?_eq_some_iff.mp y1).1
            have := lN_inj (by omega) (by omega) y2
            subst this
            rw [hw] at y1
            cases y1
            exact y3
        · intro g
          exact ⟨fun z => absurd z e8, fun z => absurd z h9, fun _ => Or.inr ⟨c, w, hw, rfl, g⟩, fun z => by rw [e10] at z; exact absurd z (by decide)⟩
      rw [ig]
      refine ⟨fun g => run _ (clR_i c110 (it_f (fun z => nomatch z) (rd_i rfl cw.1 (rd_i rfl p1 (it_f (not_not_intro ?_) (zo_i (Or.inr rfl) rfl)))))), fun g => run _ (clR_i c110 (it_f (fun z => nomatch z) (rd_i rfl cw.1 (rd_i rfl p1 (it_t (fun z => g ?_) (zo_i (Or.inl rfl) rfl))))))⟩
      · rw [lw, o8]; exact g
      · rw [lw, o8] at z; exact z
  have e11 : t.2.1 = 11 := by
    obtain ⟨y1, y2⟩ := s1
    rw [I32_le] at y1 y2
    rw [I32_lt] at h8
    have z8 : (8 : Int32).toInt = 8 := rfl
    have z11 : (11 : Int32).toInt = 11 := rfl
    have n8 : t.2.1.toInt ≠ 8 := fun z => e8 (Int32.toInt_inj.mp z)
    have n9 : t.2.1.toInt ≠ 9 := fun z => h9 (Int32.toInt_inj.mp z)
    have n10 : t.2.1.toInt ≠ 10 := fun z => e10 (Int32.toInt_inj.mp z)
    exact Int32.toInt_inj.mp (by rw [z11]; omega)
  obtain ⟨f, hf1, hf⟩ := s5 e11
  obtain ⟨fq, hfq⟩ : ∃ q, F[f]? = some q := ⟨_, List.getElem?_eq_getElem hf1⟩
  have hFl := isO.len hF
  have run : ∀ r : Option Rt, (clR (ex 111 3 [pR (some x), pJ v] M) fun r7 M5 => if r7 = none then zo 0 (some (some (pI 0), M5)) else rd (some k) 8 M5 fun a8 => rd (some x) 11 M5 fun a10 => clI (ex 125 4 [pR (some a10), pR r7, pI (gI M5 514 a8)] M5) fun r11 M9 => if r11 = 0 then zo 0 (some (some (pI 0), M9)) else zo 1 (some (some (pI 1), M9))) = r → _ = r := fun r hr => pre (it_f h8 (it_t hm' (rd_i rfl p1 (it_t (fun z => e8 (p3.symm.trans z)) (rd_i rfl p1 (it_t (fun z => e10 (p3.symm.trans z)) (rd_i rfl hB.k hr)))))))
  rcases l_or v (n := O.length) (by omega) with hv | ⟨c, hc, rfl⟩
  · have ng : ¬ gV E F W O t.2.1 t.2.2.1 v := fun g => by
      rcases g.2.2.2 e11 with z | ⟨o', q', g', fq', y1, y2, y3, -⟩
      · exact hm z
      · rw [y3] at hv
        rcases hv with hv | hv
        · exact lN_nn (by omega) hv
        · rw [lN_le (by omega) (by omega)] at hv; omega
    exact ⟨fun g => absurd g ng, fun _ => run _ (clR_i (c_objAt_no hB hO hv) (it_t rfl (zo_i (Or.inl rfl) rfl)))⟩
  · obtain ⟨w, hw⟩ : ∃ w, O[c]? = some w := ⟨_, List.getElem?_eq_getElem hc⟩
    obtain ⟨ka, c111, -, cw⟩ := c_objAt hB hO hw
    have e125 := c_isOfFam hB hF hfq cw (hF6 f fq hfq)
    have ig : gV E F W O t.2.1 t.2.2.1 (lN c) ↔ nI w.1 ∈ fq.2 := by
      constructor
      · intro g
        rcases g.2.2.2 e11 with z | ⟨o', q', g', fq', y1, y2, y3, y4, y5, y6⟩
        · exact absurd z hm
        · have := lN_inj (by omega) (by omega) y3
          subst this
          rw [hw] at y2
          cases y2
          have hg' : g' < F.length := (List.getElem?_eq_some_iff.mp y5).1
          rw [hf] at y4
          have := nI_inj (by omega) (by omega) y4
          subst this
          rw [hfq] at y5
          cases y5
          exact y6
      · intro g
        exact ⟨fun z => absurd z e8, fun z => absurd z h9, fun z => absurd z e10, fun _ => Or.inr ⟨c, w, f, fq, hc, hw, rfl, hf, hfq, g⟩⟩
    rw [ig]
    refine ⟨fun g => run _ (clR_i c111 (it_f (fun z => nomatch z) (rd_i rfl p1 (rd_i rfl hB.k (clI_i (v := 1) (M1 := M) ?_ (it_f (by decide) (zo_i (Or.inr rfl) rfl))))))), fun g => run _ (clR_i c111 (it_f (fun z => nomatch z) (rd_i rfl p1 (rd_i rfl hB.k (clI_i (v := 0) (M1 := M) ?_ (it_t rfl (zo_i (Or.inl rfl) rfl)))))))⟩
    · rw [o8, hf, e125, if_pos g]
    · rw [o8, hf, e125, if_neg g]
end OPS
