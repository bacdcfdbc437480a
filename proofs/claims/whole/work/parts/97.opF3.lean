/-! FAMILIES: all leaves gathered anew -/
section OPF
variable {x : Nat} {E E' : List TE} {R R' : List TR} {F F' : List TF} {W W' : List TW} {O O' : List TO} {T T' : List TL} {S S' : TS} {jW jO jW' jO' n : Nat} {M M' M1 : Mem}
/-- the i-th family's leaves -/
def lvF (F : List TF) (i : Nat) : List Int32 := ((F.getD i ([], [])).1).foldl (stepL2 (lvT F i)) []
/-- members that can be -/
def mbOK (i : Nat) (c : Int32) : Prop := (∃ r, r < 6 ∧ c = nI r) ∨ ∃ g, g < i ∧ g < 3 ∧ c = nI (10 + g)
theorem step_lt {t : List (List Int32)} {acc : List Int32} {r : Nat} (h : r < 6) : stepL2 t acc (nI r) = addL acc (nI r) := by
  unfold stepL2
  have : nI r < 10 := nI_lt (b := 10) (by omega) (by decide)
  rw [if_pos this]
theorem nI_10 (g : Nat) : nI (10 + g) - 10 = nI g := by
  have := nI_sub (a := 10 + g) (b := 10) (by omega)
  rw [show 10 + g - 10 = g by omega] at this
  exact this
theorem nI_n10 {g : Nat} (h : g < 3) : ¬ nI (10 + g) < 10 := by
  rw [I32_lt, nI_toInt (by omega)]
  have : (10 : Int32).toInt = 10 := rfl
  omega
theorem step_ge {t : List (List Int32)} {acc : List Int32} {g : Nat} (h : g < 3) : stepL2 t acc (nI (10 + g)) = (t.getD g []).foldl addL acc := by
  unfold stepL2
  rw [if_neg (nI_n10 h), nI_10, nI_clamp (by omega)]
theorem gd_steps {t : List (List Int32)} {i : Nat} (ht : ∀ g, g < i → gdL (t.getD g [])) : ∀ (l : List Int32) (acc : List Int32), (∀ c ∈ l, mbOK i c) → gdL acc → gdL (l.foldl (stepL2 t) acc) := by
  intro l
  induction l with
  | nil => intro acc _ h; exact h
  | cons c l ih =>
    intro acc h1 h
    refine ih _ (fun d hd => h1 d (List.mem_cons_of_mem _ hd)) ?_
    rcases h1 c List.mem_cons_self with ⟨r, z1, z2⟩ | ⟨g, z0, z1, z2⟩
    · rw [z2, step_lt z1]; exact h.add ⟨r, z1, rfl⟩
    · rw [z2, step_ge z1]; exact (ht g z0).fold _ h
theorem gd_lv (hF : ∀ (i : Nat) (c : Int32), c ∈ (F.getD i ([], [])).1 → mbOK i c) : ∀ i, gdL (lvF F i) := by
  intro i
  induction i using Nat.strongRecOn with
  | ind i ih =>
    refine gd_steps (fun g hg => ?_) _ _ (hF i) gdL.nil
    rw [lvT_at _ _ _ hg]
    exact ih g hg
/-- the families at their addresses -/
def XFa (x : Nat) (M : Mem) (as : List Nat) (F : List TF) : Prop := isL M (x + 3) as ∧ (∀ i j a : Nat, as[i]? = some a → as[j]? = some a → i = j) ∧ as.length = F.length ∧ ∀ (i a : Nat) (q : TF), as[i]? = some a → F[i]? = some q → x + 57 < a ∧ cF M q a
theorem XFa.xf {as : List Nat} (h : XFa x M as F) : XF x M F := ⟨as, h⟩
theorem XFa.step {as : List Nat} {f a : Nat} {q q' : TF} (h : XFa x M as F) (ha : as[f]? = some a) (hq : F[f]? = some q) (u : LF x a M M') (hc : cF M' q' a) : XFa x M' as (F.set f q') := by
  obtain ⟨h1, h2, h3, h4⟩ := h
  have hf : f < F.length := (List.getElem?_eq_some_iff.mp hq).1
  refine ⟨u.1.ls id _ h1, h2, by rw [List.length_set]; exact h3, fun i b r hb hr => ?_⟩
  rw [List.getElem?_set] at hr
  by_cases e : f = i
  · subst e
    rw [if_pos rfl, if_pos hf] at hr
    cases hr
    rw [ha] at hb
    cases hb
    exact ⟨(h4 f a q ha hq).1, hc⟩
  · rw [if_neg e] at hr
    obtain ⟨y1, y2⟩ := h4 i b r hb hr
    exact ⟨y1, y2.lf (h4 f a q ha hq).2 (fun z => e (h2 f i a ha (by rw [← z]; exact hb))) u⟩
theorem c_famAt' {as : List Nat} {k b : Nat} (hB : XB x M) (h : XFa x M as F) (hb : as[k]? = some b) : ex 109 2 [pR (some x), pI (nI k)] M = some (some (pR (some b)), M) := by
  have hk : k < as.length := (List.getElem?_eq_some_iff.mp hb).1
  have hl := h.xf.len
  have hF := h.xf
  obtain ⟨h1, h2, h3, h4⟩ := h
  obtain ⟨-, hc⟩ := h4 k b F[k] hb (List.getElem?_eq_getElem (by omega))
  rw [tX11_familyAt]
  exact it_f (nI_pos (by omega)) (rd_i rfl hB.k (rd_i hB.r3.1 hB.r3.2 (clI_i hF.size (it_f (nI_ge (by omega) (by omega)) (rd_i rfl hB.k (rd_i hB.r3.1 hB.r3.2 (clR_i (L_get h1 hb) (ck_s rfl hc.1 rfl))))))))
theorem XB.lf {a : Nat} (hB : XB x M) (ha : x + 57 < a) (u : LF x a M M') : XB x M' := hB.fr u.1 (by decide) (fun d hd q => by omega)
theorem c_gather_in {as : List Nat} {G : List TF} {tb : List (List Int32)} {f a : Nat} {ms : List Int32} (ha : as[f]? = some a) (hf : f < G.length) (hms : ms.length ≤ 4) (hmb : ∀ c ∈ ms, mbOK f c) (hG : ∀ g, g < f → ∃ q : TF, G[g]? = some q ∧ q.2 = tb.getD g []) (htb : ∀ g, g < f → gdL (tb.getD g [])) :
    ∀ (n i : Nat) (M : Mem) (acc : List Int32), n + i = ms.length → XB x M → PIv x M → LI M → XFa x M as (G.set f (ms, acc)) → gdL acc →
    ∃ M', rn PP 115 32 [some (pR (some x)), some (pI (nI f)), some (pR (some a)), some (pI (nI i)), none] [] M = rn PP 115 2 [some (pR (some x)), some (pI (nI (f + 1))), none, none, none] [] M' ∧ XFa x M' as (G.set f (ms, (ms.drop i).foldl (stepL2 tb) acc)) ∧ LF x a M M' := by
  intro n
  have hgf : ∀ acc, (G.set f (ms, acc))[f]? = some (ms, acc) := fun acc => by rw [List.getElem?_set, if_pos rfl, if_pos hf]
  induction n with
  | zero =>
    intro i M acc hi hB hv hL hX hg
    obtain ⟨-, hc⟩ := hX.2.2.2 f a _ ha (hgf acc)
    have h3 : gI M 257 a = nI ms.length := hc.2.1.2.1
    refine ⟨M, ?_, ?_, LF.rf hv hL⟩
    · rw [tX11_gatherLeaves_32]
      refine rd_i rfl hc.1 (it_t (by rw [h3]; exact nI_le (by omega) (by omega)) ?_)
      rw [nI_1]
    · rw [List.drop_of_length_le (by omega)]
      exact hX
  | succ n ih =>
    intro i M acc hi hB hv hL hX hg
    obtain ⟨hxa, hc⟩ := hX.2.2.2 f a _ ha (hgf acc)
    obtain ⟨h1, ⟨h2, h3, h4, h5, h6, h7⟩, -⟩ := id hc
    have h3 : gI M 257 a = nI ms.length := h3
    obtain ⟨c, hcc, hd⟩ := drop_get (l := ms) (i := i) (by omega)
    have hcm := hmb c (List.mem_of_getElem? hcc)
    have nx : ∀ (M1 : Mem) (acc' : List Int32), LF x a M M1 → cF M1 (ms, acc') a → gdL acc' → stepL2 tb acc c = acc' → ∃ M', rn PP 115 32 [some (pR (some x)), some (pI (nI f)), some (pR (some a)), some (pI (nI i + 1)), none] [] M1 = rn PP 115 2 [some (pR (some x)), some (pI (nI (f + 1))), none, none, none] [] M' ∧ XFa x M' as (G.set f (ms, (ms.drop i).foldl (stepL2 tb) acc)) ∧ LF x a M M' := by
      intro M1 acc' u hc' hg' hst
      have hX1 := hX.step ha (hgf acc) u hc'
      rw [List.set_set] at hX1
      obtain ⟨M2, e2, X2, u2⟩ := ih (i + 1) M1 acc' (by omega) (hB.lf hxa u) u.1.v u.1.li hX1 hg'
      refine ⟨M2, by rw [nI_1]; exact e2, ?_, u.tr u2⟩
      rw [hd, List.foldl_cons, hst]
      exact X2
    rcases hcm with ⟨r, z1, z2⟩ | ⟨g, z0, z1, z2⟩
    · obtain ⟨M1, e1, c1, u1⟩ := c_addLeaf (c := c) hc hv hL hg ⟨r, z1, z2⟩
      obtain ⟨M2, e2, X2, u2⟩ := nx M1 _ u1 c1 (hg.add ⟨r, z1, z2⟩) (by rw [z2]; exact step_lt z1)
      refine ⟨M2, ?_, X2, u2⟩
      rw [tX11_gatherLeaves_32]
      refine rd_i rfl h1 (it_f (by rw [h3]; exact nI_ge (by omega) (by omega)) (rd_i rfl h1 (ix_i h2 (Or.inl h4) rfl (by omega) (by omega) ?_)))
      rw [h7 i c hcc]
      exact it_t (by rw [z2]; exact nI_lt (b := 10) (by omega) (by decide)) (rd_i rfl h1 (clV_i e1 e2))
    · have hgl : g < as.length := by rw [hX.2.2.1, List.length_set]; omega
      have hb : as[g]? = some as[g] := List.getElem?_eq_getElem hgl
      generalize as[g] = b at hb
      obtain ⟨q', y1, y2⟩ := hG g z0
      have hq' : (G.set f (ms, acc))[g]? = some q' := by rw [List.getElem?_set, if_neg (by omega)]; exact y1
      obtain ⟨-, hcb⟩ := hX.2.2.2 g b q' hb hq'
      have hba : b ≠ a := fun z => by
        have := hX.2.1 g f a (by rw [← z]; exact hb) ha
        omega
      have hg2 : gdL q'.2 := by rw [y2]; exact htb g z0
      obtain ⟨M1, e1, c1, u1⟩ := c_addLeavesOf (x := x) hba hg2 q'.2.length 0 M _ (by omega) hc hcb hv hL hg
      have e1' : ex 53 3 [pR (some a), pR (some b)] M = some (none, M1) := by rw [tX4_addLeavesOf]; exact e1
      obtain ⟨M2, e2, X2, u2⟩ := nx M1 _ u1 c1 (hg2.fold _ hg) (by rw [z2, step_ge z1, ← y2]; rfl)
      refine ⟨M2, ?_, X2, u2⟩
      rw [tX11_gatherLeaves_32]
      refine rd_i rfl h1 (it_f (by rw [h3]; exact nI_ge (by omega) (by omega)) (rd_i rfl h1 (ix_i h2 (Or.inl h4) rfl (by omega) (by omega) ?_)))
      rw [h7 i c hcc]
      refine it_f (by rw [z2]; exact nI_n10 z1) (rd_i rfl hB.k ?_)
      rw [z2, nI_10]
      exact clR_i (c_famAt' hB hX hb) (rd_i rfl h1 (clV_i e1' e2))
theorem c_gather {as : List Nat} (hF3 : F.length ≤ 3) (hms : ∀ i, (F.getD i ([], [])).1.length ≤ 4) (hmb : ∀ (i : Nat) (c : Int32), c ∈ (F.getD i ([], [])).1 → mbOK i c) :
    ∀ (n f : Nat) (M : Mem) (G : List TF), n + f = F.length → XB x M → PIv x M → LI M → XFa x M as G → G.length = F.length → (∀ (i : Nat) (q : TF), G[i]? = some q → q.1 = (F.getD i ([], [])).1 ∧ (i < f → q.2 = lvF F i)) →
    ∃ (M' : Mem) (G' : List TF), rn PP 115 2 [some (pR (some x)), some (pI (nI f)), none, none, none] [] M = some (none, M') ∧ XFa x M' as G' ∧ G'.length = F.length ∧ (∀ (i : Nat) (q : TF), G'[i]? = some q → q.1 = (F.getD i ([], [])).1 ∧ q.2 = lvF F i) ∧ Fr x (fun k => k = 259) No (fun d => x + 57 < d) No 0 M M' := by
  intro n
  induction n with
  | zero =>
    intro f M G hn hB hv hL hX hl hG
    refine ⟨M, G, ?_, hX, hl, fun i q hq => ⟨(hG i q hq).1, (hG i q hq).2 (by have := (List.getElem?_eq_some_iff.mp hq).1; omega)⟩, Fr.rf hv hL⟩
    rw [tX11_gatherLeaves_2]
    exact rd_i rfl hB.k (rd_i hB.r3.1 hB.r3.2 (clI_i hX.xf.size (it_t (nI_le (by omega) (by omega)) rfl)))
  | succ n ih =>
    intro f M G hn hB hv hL hX hl hG
    have hfl : f < as.length := by rw [hX.2.2.1]; omega
    have ha : as[f]? = some as[f] := List.getElem?_eq_getElem hfl
    generalize as[f] = a at ha
    have hq : G[f]? = some G[f] := List.getElem?_eq_getElem (by omega)
    generalize G[f]'(by omega) = q at hq
    obtain ⟨hxa, hc⟩ := hX.2.2.2 f a q ha hq
    have hq1 := (hG f q hq).1
    obtain ⟨h1, ⟨h2, h3, h4, h5, h6, h7⟩, ⟨g2, g3, g4, g5, g6, g7⟩⟩ := id hc
    have u0 : LF x a M (sI M 259 a 0) := ⟨(Fr.rf hv hL).bI (Or.inl ⟨by omega, rfl⟩), fun b hb => by rw [gI_sI, up2_no hb]⟩
    have c0 : cF (sI M 259 a 0) (q.1, []) a := by
      refine ⟨by rw [kd_sI]; exact h1, ⟨by rw [gR_sI]; exact h2, by rw [gI_sI, up2_ne (by decide)]; exact h3, by rw [kd_sI]; exact h4, by rw [ln_sI]; exact h5, h6, fun i c hc => by rw [aI_sI]; exact h7 i c hc⟩, ⟨by rw [gR_sI]; exact g2, by rw [gI_sI, up2_at]; rfl, by rw [kd_sI]; exact g4, by rw [ln_sI]; exact g5, by simp, fun i c hc => by simp at hc⟩⟩
    have hrun : ∀ r, rn PP 115 32 [some (pR (some x)), some (pI (nI f)), some (pR (some a)), some (pI 0), none] [] (sI M 259 a 0) = r → rn PP 115 2 [some (pR (some x)), some (pI (nI f)), none, none, none] [] M = r := by
      intro r hr
      rw [tX11_gatherLeaves_2]
      exact rd_i rfl hB.k (rd_i hB.r3.1 hB.r3.2 (clI_i hX.xf.size (it_f (nI_ge (by omega) (by omega)) (rd_i rfl hB.k (rd_i hB.r3.1 hB.r3.2 (clR_i (L_get hX.1 ha) (ck_s rfl h1 (rd_i rfl h1 (bd_i hr)))))))))
    generalize sI M 259 a 0 = M0 at u0 c0 hrun
    have X0 := hX.step ha hq u0 c0
    have B0 := hB.lf hxa u0
    obtain ⟨M2, e2, X2, u2⟩ := c_gather_in (x := x) (tb := lvT F f) (ms := q.1) ha (by omega) h6 (fun c hc => hmb f c (by rw [← hq1]; exact hc)) (fun g hg => ⟨G[g], List.getElem?_eq_getElem (by omega), by rw [lvT_at _ _ _ hg]; exact (hG g _ (List.getElem?_eq_getElem (by omega))).2 hg⟩) (fun g hg => by rw [lvT_at _ _ _ hg]; exact gd_lv hmb g) q.1.length 0 M0 [] (by omega) B0 u0.1.v u0.1.li X0 gdL.nil
    have u02 := u0.tr u2
    have B2 := hB.lf hxa u02
    obtain ⟨M3, G3, e3, X3, l3, p3, f3⟩ := ih (f + 1) M2 _ (by omega) B2 u02.1.v u02.1.li X2 (by rw [List.length_set]; exact hl) (fun i r hr => by
      rw [List.getElem?_set] at hr
      by_cases e : f = i
      · subst e
        rw [if_pos rfl, if_pos (by omega)] at hr
        cases hr
        refine ⟨hq1, fun _ => ?_⟩
        show (q.1.drop 0).foldl (stepL2 (lvT F f)) [] = lvF F f
        rw [List.drop_zero, hq1]
        rfl
      · rw [if_neg e] at hr
        exact ⟨(hG i r hr).1, fun hi => (hG i r hr).2 (by omega)⟩)
    exact ⟨M3, G3, hrun _ (e2.trans e3), X3, l3, p3, (u02.1.mo (AI' := fun d => x + 57 < d) (Nat.le_refl _) (fun _ => id) (fun _ => id) (fun d q => by omega) (fun _ => id)).tr f3⟩
end OPF
