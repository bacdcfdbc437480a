/-! BUILD: the class -/
section GI
variable {x : Nat} {M M1 M' : Mem} {Z : Nat → Nat → Prop}
/-- only int fields have changed, those in Z -/
def GI (Z : Nat → Nat → Prop) (M M' : Mem) : Prop := (mT M' = mT M ∧ mS M' = mS M ∧ kd M' = kd M ∧ gJ M' = gJ M ∧ gR M' = gR M ∧ ln M' = ln M ∧ aI M' = aI M ∧ aJ M' = aJ M ∧ aR M' = aR M ∧ sR M' = sR M) ∧ ∀ k a, ¬ Z k a → gI M' k a = gI M k a
theorem GI.rf : GI Z M M := ⟨⟨rfl, rfl, rfl, rfl, rfl, rfl, rfl, rfl, rfl, rfl⟩, fun _ _ _ => rfl⟩
theorem GI.sI {k a : Nat} {v : Int32} (h : GI Z M M1) (hz : Z k a) : GI Z M (sI M1 k a v) := by
  refine ⟨h.1, fun j b hj => ?_⟩
  show up2 (gI M1) k a v j b = _
  have : ¬ (j = k ∧ b = a) := fun q => hj (by rw [q.1, q.2]; exact hz)
  rw [show up2 (gI M1) k a v j b = gI M1 j b from if_neg this]
  exact h.2 j b hj
theorem GI.tr {M2 : Mem} (h : GI Z M M1) (g : GI Z M1 M2) : GI Z M M2 := by
  obtain ⟨⟨a1, a2, a3, a4, a5, a6, a7, a8, a9, a10⟩, b⟩ := h
  obtain ⟨⟨c1, c2, c3, c4, c5, c6, c7, c8, c9, c10⟩, d⟩ := g
  exact ⟨⟨c1.trans a1, c2.trans a2, c3.trans a3, c4.trans a4, c5.trans a5, c6.trans a6, c7.trans a7, c8.trans a8, c9.trans a9, c10.trans a10⟩, fun k a h => (d k a h).trans (b k a h)⟩
theorem GI.mo {Z' : Nat → Nat → Prop} (h : GI Z M M1) (hz : ∀ k a, Z k a → Z' k a) : GI Z' M M1 := ⟨h.1, fun k a q => h.2 k a (fun w => q (hz k a w))⟩
theorem GI.fr {K L AI AJ : Nat → Prop} (h : GI Z M M') (hv : PIv x M) (hL : LI M) (hZ : ∀ k a, Z k a → 3 ≤ k ∧ K k) : Fr x K L AI AJ 0 M M' := by
  obtain ⟨⟨a1, a2, a3, a4, a5, a6, a7, a8, a9, a10⟩, b⟩ := h
  have hv1 : PIv x M' := by unfold PIv; rw [a1, a3, a9]; exact hv
  have hL1 : LI M' := by unfold LI CI; rw [a1, a3, a9, a5]; exact hL
  refine ⟨⟨by omega, by omega, by omega, by omega, a10⟩, ⟨hv, hv1⟩, hL1, fun a _ => ⟨by rw [a3], by rw [a6], fun _ => by rw [a9]⟩, fun k a _ _ hk => ⟨b k a (fun q => hk (hZ k a q).2), by rw [a4], by rw [a5]⟩, fun a _ _ => by rw [a7], fun a _ _ => by rw [a8], fun l as _ hl => ?_⟩
  obtain ⟨g1, g2, g3, d, g4, g5, g6, g7, g8⟩ := hl
  exact ⟨by rw [a3]; exact g1, by rw [b 2 l (fun q => by have := (hZ 2 l q).1; omega)]; exact g2, g3, d, by rw [a5]; exact g4, by rw [a6]; exact g5, by rw [a6]; exact g6, fun i a hi => by rw [a9]; exact g7 i a hi, by rw [a3, a6, a10]; exact g8⟩
theorem cQ.gi {q : TQ} {k : Nat} (h : cQ x M q k) (g : GI Z M M') (hz : ∀ j ∈ [321, 322, 325], ¬ Z j k) : cQ x M' q k := by
  obtain ⟨⟨a1, a2, a3, a4, a5, a6, a7, a8, a9, a10⟩, b⟩ := g
  unfold cQ
  rw [a3, a4, a5, a6, a8, a10, b 321 k (hz _ (by decide)), b 322 k (hz _ (by decide)), b 325 k (hz _ (by decide))]
  exact h
theorem cL.gi {ad : Nat → Nat} {q : TL} {a : Nat} (h : cL x M ad q a) (g : GI Z M M') (h1 : ∀ j ∈ [384, 385, 389], ¬ Z j a) (h2 : ∀ p, p < q.2.2.1.length → ∀ j ∈ [321, 322, 325], ¬ Z j (ad p)) : cL x M' ad q a := by
  obtain ⟨c1, c2, c3, c4, c5, c6, c7, pq, g1, g2, g3, g4, g5⟩ := h
  obtain ⟨⟨a1, a2, a3, a4, a5, a6, a7, a8, a9, a10⟩, b⟩ := id g
  refine ⟨by rw [a3]; exact c1, by rw [b _ _ (h1 384 (by decide))]; exact c2, by rw [b _ _ (h1 385 (by decide))]; exact c3, by rw [b _ _ (h1 389 (by decide))]; exact c4, by rw [a5]; exact c5, by rw [a3]; exact c6, by rw [a6]; exact c7, pq, by rw [a5]; exact g1, by rw [a3]; exact g2, by rw [a6]; exact g3, g4, fun p r hr => ?_⟩
  obtain ⟨y1, y2, y3⟩ := g5 p r hr
  exact ⟨by rw [a9]; exact y1, y2, y3.gi g (h2 p (List.getElem?_eq_some_iff.mp hr).1)⟩
end GI
theorem mix_at {α : Type} {f : α → α} {l : List α} {i : Nat} {q : α} (hq : l[i]? = some q) : ((l.take i).map f ++ l.drop i)[i]? = some q ∧ ((l.take i).map f ++ l.drop i).set i (f q) = (l.take (i + 1)).map f ++ l.drop (i + 1) := by
  have hi : i < l.length := (List.getElem?_eq_some_iff.mp hq).1
  have e : l.drop i = q :: l.drop (i + 1) := by
    rw [List.drop_eq_getElem_cons hi, (List.getElem?_eq_some_iff.mp hq).2]
  have hl : ((l.take i).map f).length = i := by
    rw [List.length_map, List.length_take]
    omega
  constructor
  · rw [List.getElem?_append_right (by omega), hl, Nat.sub_self, e]
    rfl
  · rw [List.set_append_right _ _ (by omega), hl, Nat.sub_self, e, List.set_cons_zero, List.take_succ, hq, List.map_append, List.append_assoc]
    rfl
theorem mix_len {α : Type} {f : α → α} {l : List α} {i : Nat} : ((l.take i).map f ++ l.drop i).length = l.length := by
  rw [List.length_append, List.length_map, List.length_take, List.length_drop]
  omega
theorem mix_end {α : Type} {f : α → α} {l : List α} {i : Nat} (h : l.length ≤ i) : (l.take i).map f ++ l.drop i = l.map f := by
  rw [List.take_of_length_le h, List.drop_of_length_le h, List.append_nil]
section OPS
variable {x : Nat} {E E' : List TE} {R R' : List TR} {F F' : List TF} {W W' : List TW} {O O' : List TO} {T T' : List TL} {S S' : TS} {jW jO jW' jO' n : Nat} {M M' M1 : Mem}
def rsE (q : TE) : TE := (q.1, q.2.1, 0, 0)
def rsR (q : TR) : TR := (q.1, q.2.1, 0)
def rsQ (t : TQ) : TQ := (t.1, t.2.1, t.2.2.1, t.2.2.2.1, t.2.2.2.2.1, -1)
def rsL (q : TL) : TL := (q.1, q.2.1, q.2.2.1.map rsQ, -1)
theorem c_bE {v : Int32} : ∀ (n i : Nat) (M : Mem), n + i = E.length → XI x ((E.take i).map rsE ++ E.drop i) R F W O T S jW jO M → ∃ M', rn PP 85 50 [some (pR (some x)), some (pI v), some (pI (nI i))] [] M = rn PP 85 83 [some (pR (some x)), some (pI v), some (pI 0)] [] M' ∧ XI x (E.map rsE) R F W O T S jW jO M' ∧ Fr x (fun k => k = 194 ∨ k = 195) No No No 0 M M' := by
  intro n
  induction n with
  | zero =>
    intro i M hi hX
    obtain ⟨⟨hB, hv, hL⟩, hE, -⟩ := id hX
    have hsz := hE.size
    have hl := isO.len hE
    rw [mix_len] at hsz hl
    rw [mix_end (by omega)] at hX
    refine ⟨M, ?_, hX, Fr.rf hv hL⟩
    rw [tX11_build_50]
    exact rd_i rfl hB.k (rd_i hB.r1.1 hB.r1.2 (clI_i hsz (it_t (nI_le (by omega) (by omega)) rfl)))
  | succ n ih =>
    intro i M hi hX
    obtain ⟨⟨hB, hv, hL⟩, hE, -⟩ := id hX
    have hsz := hE.size
    have hl := isO.len hE
    rw [mix_len] at hsz hl
    have hil : i < E.length := by omega
    obtain ⟨m1, m2⟩ := mix_at (f := rsE) (List.getElem?_eq_getElem hil)
    obtain ⟨a, g1, g2, g3, g4, -⟩ := isO.at hE m1
    generalize E[i] = q at m1 m2 g3
    have f0 : Fr x (fun k => k = 194 ∨ k = 195) No No No 0 M (sI M 194 a 0) := (Fr.rf hv hL).bI (Or.inl ⟨by omega, Or.inl rfl⟩)
    have f1 : Fr x (fun k => k = 194 ∨ k = 195) No No No 0 M (sI (sI M 194 a 0) 195 a 0) := f0.bI (Or.inl ⟨by omega, Or.inr rfl⟩)
    obtain ⟨c1, c2, c3, c4, c5, c6⟩ := id g3
    have cn : cE x (sI (sI M 194 a 0) 195 a 0) (rsE q) a := by
      refine ⟨c1, c2, ?_, ?_, ?_, c6.mono (f1.ls id) (fun r c _ h => h.fr f1 ⟨by decide, by decide⟩)⟩
      · rw [gI_sI, up2_ne (by omega), gI_sI, up2_ne (by omega)]; exact c3
      · rw [gI_sI, up2_ne (by omega), gI_sI, up2_at]; rfl
      · rw [gI_sI, up2_at]; rfl
    have hE1 := g4 (sI (sI M 194 a 0) 195 a 0) (cE x (sI (sI M 194 a 0) 195 a 0)) (rsE q) (f1.ls id) cn (fun r b hne hb hr => by
      obtain ⟨d1, d2, d3, d4, d5, d6⟩ := hr
      exact ⟨d1, d2, by rw [gI_sI, up2_no hne, gI_sI, up2_no hne]; exact d3, by rw [gI_sI, up2_no hne, gI_sI, up2_no hne]; exact d4, by rw [gI_sI, up2_no hne, gI_sI, up2_no hne]; exact d5, d6.mono (f1.ls id) (fun r c _ h => h.fr f1 ⟨by decide, by decide⟩)⟩)
    rw [m2] at hE1
    have e48 : ex 48 1 [pR (some a)] M = some (none, sI (sI M 194 a 0) 195 a 0) := by
      rw [tX3_rest]
      exact rd_i rfl c1 (zo_i (Or.inl rfl) (bd_i (rd_i rfl c1 (zo_i (Or.inl rfl) (bd_i rfl)))))
    have hX1 := hX.frE f1 (fun k q => by omega) (fun l q => q.elim) hE1
    clear cn hE1
    generalize sI (sI M 194 a 0) 195 a 0 = M1 at f1 e48 hX1
    obtain ⟨M', e1, e2, e3⟩ := ih (i + 1) M1 (by omega) hX1
    refine ⟨M', ?_, e2, f1.tr e3⟩
    rw [tX11_build_50, ← e1]
    refine rd_i rfl hB.k (rd_i hB.r1.1 hB.r1.2 (clI_i hsz (it_f (nI_ge hil (by omega)) (rd_i rfl hB.k (rd_i hB.r1.1 hB.r1.2 (clR_i g1 (ck_s rfl c1 (rd_i rfl c1 (clV_i e48 ?_)))))))))
    rw [nI_1]
theorem c_bR {v : Int32} : ∀ (n i : Nat) (M : Mem), n + i = R.length → XI x E ((R.take i).map rsR ++ R.drop i) F W O T S jW jO M → ∃ M', rn PP 85 83 [some (pR (some x)), some (pI v), some (pI (nI i))] [] M = rn PP 85 117 [some (pR (some x)), some (pI v), some (pI 0)] [] M' ∧ XI x E (R.map rsR) F W O T S jW jO M' ∧ Fr x (fun k => k = 578) No No No 0 M M' := by
  intro n
  induction n with
  | zero =>
    intro i M hi hX
    obtain ⟨⟨hB, hv, hL⟩, -, hR, -⟩ := id hX
    have hsz := hR.size
    have hl := isO.len hR
    rw [mix_len] at hsz hl
    rw [mix_end (by omega)] at hX
    refine ⟨M, ?_, hX, Fr.rf hv hL⟩
    rw [tX11_build_83]
    exact rd_i rfl hB.k (rd_i hB.r2.1 hB.r2.2 (clI_i hsz (it_t (nI_le (by omega) (by omega)) rfl)))
  | succ n ih =>
    intro i M hi hX
    obtain ⟨⟨hB, hv, hL⟩, -, hR, -⟩ := id hX
    have hsz := hR.size
    have hl := isO.len hR
    rw [mix_len] at hsz hl
    have hil : i < R.length := by omega
    obtain ⟨m1, m2⟩ := mix_at (f := rsR) (List.getElem?_eq_getElem hil)
    obtain ⟨a, g1, g2, g3, g4, -⟩ := isO.at hR m1
    generalize R[i] = q at m1 m2 g3
    have f1 : Fr x (fun k => k = 578) No No No 0 M (sI M 578 a 0) := (Fr.rf hv hL).bI (Or.inl ⟨by omega, rfl⟩)
    obtain ⟨c1, c2, c3, c4, c5, c6⟩ := id g3
    have cn : cR x (sI M 578 a 0) (rsR q) a := by
      refine ⟨c1, c2, c3, ?_, c5.mono (f1.ls id) (fun q a _ h => h.fr f1 (by decide)), c6.mono (f1.ls id) (fun q a _ h => h.fr f1 (by decide))⟩
      rw [gI_sI, up2_at]; rfl
    have hR1 := g4 (sI M 578 a 0) (cR x (sI M 578 a 0)) (rsR q) (f1.ls id) cn (fun r b hne hb hr => by
      obtain ⟨d1, d2, d3, d4, d5, d6⟩ := hr
      exact ⟨d1, d2, d3, by rw [gI_sI, up2_no hne]; exact d4, d5.mono (f1.ls id) (fun q a _ h => h.fr f1 (by decide)), d6.mono (f1.ls id) (fun q a _ h => h.fr f1 (by decide))⟩)
    rw [m2] at hR1
    have hX1 := hX.frR f1 (fun k q => by omega) (fun l q => q.elim) hR1
    obtain ⟨M', e1, e2, e3⟩ := ih (i + 1) (sI M 578 a 0) (by omega) hX1
    refine ⟨M', ?_, e2, f1.tr e3⟩
    rw [tX11_build_83, ← e1]
    refine rd_i rfl hB.k (rd_i hB.r2.1 hB.r2.2 (clI_i hsz (it_f (nI_ge hil (by omega)) (rd_i rfl hB.k (rd_i hB.r2.1 hB.r2.2 (clR_i g1 (ck_s rfl c1 (rd_i rfl c1 (zo_i (Or.inl rfl) (bd_i ?_))))))))))
    rw [nI_1]
/-- only lines have changed -/
theorem XI.frL {K L AJ : Nat → Prop} (h : XI x E R F W O T S jW jO M) (f : Fr x K L No AJ n M M1) (hK : ∀ k, K k → 320 ≤ k ∧ k ≤ 390) (hL : ∀ l, L l → l = x + 10) (hJ : ∀ d, AJ d → x + 58 < d ∧ (kd M (d - 1) = 5 ∨ kd M (d - 1) = 6)) (hT' : XL x M1 T') : XI x E R F W O T' S jW jO M1 := by
  obtain ⟨⟨hB, hv, hLI⟩, h1, h2, h3, h4, h5, h6, h7⟩ := h
  have nK : ∀ (ks : List Nat), ks.all (fun k => decide (¬ (320 ≤ k ∧ k ≤ 390))) = true → ∀ k ∈ ks, ¬ K k := fun ks hks k hk q => by
    have a1 := of_decide_eq_true (List.all_eq_true.mp hks k hk)
    exact a1 (hK k q)
  have nX : ∀ q ∈ xtab, ¬ K q.1 := fun q hq z => by
    have a1 : ∀ q ∈ xtab, ¬ (320 ≤ q.1 ∧ q.1 ≤ 390) := by decide
    exact a1 q hq (hK _ z)
  exact ⟨⟨hB.fr f nX (fun a ha q => q), f.v, f.li⟩, h1.fr f (nK _ (by decide)) (fun q => by have := hL _ q; omega) (fun a ha _ q => by have := hL _ q; omega), h2.fr f (nK _ (by decide)) (fun q => by have := hL _ q; omega) (fun a ha _ _ => ⟨fun q => by have := hL _ q; omega, fun q => by have := hL _ q; omega⟩), h3.fr f (nK _ (by decide)) (fun q => by have := hL _ q; omega) (fun a ha _ => ⟨id, id⟩), h4.fr hB f (nK _ (by decide)) (fun q => by have := hL _ q; omega) (fun a ha hk q => by have := (hJ _ q).2; rw [Nat.add_sub_cancel] at this; omega), h5.fr hB f (nK _ (by decide)) (fun q => by have := hL _ q; omega) (fun a ha hk q => by have := (hJ _ q).2; rw [Nat.add_sub_cancel] at this; omega), hT', h7.fr hB f (nK _ (by decide)) ⟨id, id⟩ (fun q => by have := (hJ _ q).1; omega)⟩
/-- one line is another one -/
theorem XLa.set {as : List Nat} {ad : Nat → Nat → Nat} {l a : Nat} {q q' : TL} (h : XLa x M as ad T) (ha : as[l]? = some a) (hq : T[l]? = some q) (hl : ∀ as, isL M (x + 10) as → isL M' (x + 10) as) (hlen : q'.2.2.1.length = q.2.2.1.length) (hc : cL x M' (ad l) q' a) (ho : ∀ (l' a' : Nat) (r : TL), l' ≠ l → a' ≠ a → (∀ p p', p < r.2.2.1.length → p' < q.2.2.1.length → ad l' p ≠ ad l p') → as[l']? = some a' → T[l']? = some r → cL x M (ad l') r a' → cL x M' (ad l') r a') : XLa x M' as ad (T.set l q') := by
  obtain ⟨h1, h2, h3, h4, h5⟩ := h
  have hlt : l < T.length := (List.getElem?_eq_some_iff.mp hq).1
  have get : ∀ (i : Nat) (r : TL), (T.set l q')[i]? = some r → (i = l ∧ r = q') ∨ (i ≠ l ∧ T[i]? = some r) := fun i r hr => by
    rw [List.getElem?_set] at hr
    by_cases c : l = i
    · subst c
      rw [if_pos rfl, if_pos hlt] at hr
      cases hr
      exact Or.inl ⟨rfl, rfl⟩
    · rw [if_neg c] at hr
      exact Or.inr ⟨fun z => c z.symm, hr⟩
  refine ⟨hl as h1, h2, by rw [List.length_set]; exact h3, fun i p i' p' r r' hr hr' hp hp' e => ?_, fun i b r hb hr => ?_⟩
  · have one : ∀ (i p : Nat) (r : TL), (T.set l q')[i]? = some r → p < r.2.2.1.length → ∃ r0, T[i]? = some r0 ∧ p < r0.2.2.1.length := fun i p r hr hp => by
      rcases get i r hr with ⟨rfl, rfl⟩ | ⟨-, hr⟩
      · exact ⟨q, hq, by rw [← hlen]; exact hp⟩
      · exact ⟨r, hr, hp⟩
    obtain ⟨r0, u1, u2⟩ := one i p r hr hp
    obtain ⟨r1, w1, w2⟩ := one i' p' r' hr' hp'
    exact h4 i p i' p' r0 r1 u1 w1 u2 w2 e
  · rcases get i r hr with ⟨rfl, rfl⟩ | ⟨hne, hr⟩
    · rw [ha] at hb
      cases hb
      exact ⟨(h5 i a q ha hq).1, hc⟩
    · obtain ⟨z1, z2⟩ := h5 i b r hb hr
      exact ⟨z1, ho i b r hne (fun e => hne (h2 i l b hb (by rw [e]; exact ha))) (fun p p' hp hp' e => hne (h4 i p l p' r q hr hq hp hp' e).1) hb hr z2⟩
theorem c_unload {ad : Nat → Nat} {q : TL} {a : Nat} (hc : cL x M ad q a) : ∃ M', ex 61 2 [pR (some a)] M = some (none, M') ∧ GI (fun k b => (k = 389 ∧ b = a) ∨ (k = 325 ∧ ∃ p, p < q.2.2.1.length ∧ b = ad p)) M M' ∧ gI M' 389 a = -1 ∧ ∀ p, p < q.2.2.1.length → gI M' 325 (ad p) = -1 := by
  obtain ⟨c1, c2, c3, c4, c5, c6, c7, pq, g1, g2, g3, g4, g5⟩ := hc
  have key : ∀ (n i : Nat) (M1 : Mem), n + i = q.2.2.1.length → GI (fun k b => (k = 389 ∧ b = a) ∨ (k = 325 ∧ ∃ p, p < q.2.2.1.length ∧ b = ad p)) M M1 → gI M1 389 a = -1 → (∀ p, p < i → gI M1 325 (ad p) = -1) → ∃ M', rn PP 61 7 [some (pR (some a)), some (pI (nI i))] [] M1 = some (none, M') ∧ GI (fun k b => (k = 389 ∧ b = a) ∨ (k = 325 ∧ ∃ p, p < q.2.2.1.length ∧ b = ad p)) M M' ∧ gI M' 389 a = -1 ∧ ∀ p, p < q.2.2.1.length → gI M' 325 (ad p) = -1 := by
    intro n
    induction n with
    | zero =>
      intro i M1 hi hg h389 hp
      obtain ⟨⟨a1, a2, a3, a4, a5, a6, a7, a8, a9, a10⟩, b⟩ := id hg
      refine ⟨M1, ?_, hg, h389, fun p h => hp p (by omega)⟩
      rw [tX6_unload_7]
      refine rd_i rfl (by rw [a3]; exact c1) (al_i (by rw [a5]; exact g1) (by rw [a3, g2]; omega) (it_t ?_ rfl))
      rw [a6, g3]
      exact nI_le (by omega) (by omega)
    | succ n ih =>
      intro i M1 hi hg h389 hp
      obtain ⟨⟨a1, a2, a3, a4, a5, a6, a7, a8, a9, a10⟩, b⟩ := id hg
      have hil : i < q.2.2.1.length := by omega
      obtain ⟨y1, y2, y3⟩ := g5 i _ (List.getElem?_eq_getElem hil)
      obtain ⟨M', e1, e2⟩ := ih (i + 1) (sI M1 325 (ad i) (-1)) (by omega) (hg.sI (Or.inr ⟨rfl, i, hil, rfl⟩)) (by rw [gI_sI, up2_ne (by omega)]; exact h389) (fun p h => by
        rw [gI_sI]
        by_cases z : ad p = ad i
        · rw [z, up2_at]
        · rw [up2_no z]
          by_cases w : p = i
          · exact absurd (by rw [w]) z
          · exact hp p (by omega))
      refine ⟨M', ?_, e2⟩
      rw [tX6_unload_7]
      refine rd_i rfl (by rw [a3]; exact c1) (al_i (by rw [a5]; exact g1) (by rw [a3, g2]; omega) (it_f ?_ (rd_i rfl (by rw [a3]; exact c1) (ix_i (n := i) (by rw [a5]; exact g1) (Or.inr (by rw [a3]; exact g2)) rfl (by rw [a6, g3]; exact hil) (by omega) (rd_i (by rw [a9]; exact y1) (by rw [a3]; exact y3.1) (bd_i ?_))))))
      · rw [a6, g3]
        exact nI_ge hil (by omega)
      · rw [nI_1]
        exact e1
  obtain ⟨M', e1, e2⟩ := key q.2.2.1.length 0 (sI M 389 a (-1)) (by omega) (GI.rf.sI (Or.inl ⟨rfl, rfl⟩)) (by rw [gI_sI, up2_at]) (fun p h => by omega)
  refine ⟨M', ?_, e2⟩
  rw [tX6_unload]
  exact rd_i rfl c1 (bd_i e1)
end OPS
