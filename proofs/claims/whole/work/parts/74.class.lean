/-! THE CLASS'S STATE: what its objects stand for -/
abbrev TC : Type := Int64 × Int32
abbrev TE : Type := List TC × Int32 × Int32 × Int32
abbrev TP : Type := Int64 × Int32 × Int32 × Int64
abbrev TK : Type := Nat × Int32 × Int64 × Int64
abbrev TR : Type := List TP × List TK × Int32
abbrev TF : Type := List Int32 × List Int32
abbrev TW : Type := Int32 × List Int64
abbrev TO : Type := Nat × List Int64 × Int32 × Int32
abbrev TQ : Type := Int64 × Int32 × Int32 × Int64 × List Int64 × Int32
abbrev TL : Type := Nat × Int32 × List TQ × Int32
/-- rows by row(), objects by make(), who started, the draft, the cause, the build, left out, twins found -/
abbrev TS : Type := Nat × Nat × List Int32 × (Nat → Int64) × (Nat → Int32) × Nat × Int32 × Nat
def cC (M : Mem) (q : TC) (k : Nat) : Prop := kd M k = 2 ∧ gJ M 128 k = q.1 ∧ gI M 129 k = q.2
/-- an enumeration: constants, failing, started, broken -/
def cE (x : Nat) (M : Mem) (q : TE) (a : Nat) : Prop := kd M a = 3 ∧ gR M 192 a = some (a + 1) ∧ gI M 193 a = q.2.1 ∧ gI M 194 a = q.2.2.1 ∧ gI M 195 a = q.2.2.2 ∧ isO M x (a + 1) (cC M) q.1
def cP (M : Mem) (q : TP) (k : Nat) : Prop := kd M k = 8 ∧ gJ M 512 k = q.1 ∧ gI M 513 k = q.2.1 ∧ (8 ≤ q.2.1 → gI M 514 k = q.2.2.1) ∧ gJ M 515 k = q.2.2.2
def cK (M : Mem) (q : TK) (k : Nat) : Prop := kd M k = 1 ∧ gI M 64 k = nI q.1 ∧ gI M 65 k = q.2.1 ∧ gJ M 66 k = q.2.2.1 ∧ gJ M 67 k = q.2.2.2
/-- a record: parts, checks, started -/
def cR (x : Nat) (M : Mem) (q : TR) (a : Nat) : Prop := kd M a = 9 ∧ gR M 576 a = some (a + 1) ∧ gR M 577 a = some (a + 2) ∧ gI M 578 a = q.2.2 ∧ isO M x (a + 1) (cP M) q.1 ∧ isO M x (a + 2) (cK M) q.2.1
/-- a family: members, leaves -/
def cF (M : Mem) (q : TF) (a : Nat) : Prop := kd M a = 4 ∧ (gR M 256 a = some (a + 1) ∧ gI M 257 a = nI q.1.length ∧ kd M (a + 1) = 20 ∧ ln M (a + 1) = 4 ∧ q.1.length ≤ 4 ∧ ∀ (i : Nat) (c : Int32), q.1[i]? = some c → aI M (a + 1) i = c) ∧
  (gR M 258 a = some (a + 2) ∧ gI M 259 a = nI q.2.length ∧ kd M (a + 2) = 20 ∧ ln M (a + 2) = 6 ∧ q.2.length ≤ 6 ∧ ∀ (i : Nat) (c : Int32), q.2[i]? = some c → aI M (a + 2) i = c)
/-- a row: lane, items; an old one that waits -/
def cW (M : Mem) (q : Option TW) (a : Nat) : Prop := kd M a = 10 ∧ gR M 642 a = some (a + 1) ∧ kd M (a + 1) = 21 ∧ ln M (a + 1) = 16 ∧ ∀ w : TW, q = some w → gI M 640 a = w.1 ∧ gI M 641 a = nI w.2.length ∧ w.2.length ≤ 16 ∧ ∀ (i : Nat) (v : Int64), w.2[i]? = some v → aJ M (a + 1) i = v
/-- an object: record, values, line, twin -/
def cO (M : Mem) (q : Option TO) (a : Nat) : Prop := kd M a = 7 ∧ gR M 449 a = some (a + 1) ∧ kd M (a + 1) = 21 ∧ ln M (a + 1) = 6 ∧ ∀ w : TO, q = some w → gI M 448 a = nI w.1 ∧ gI M 451 a = w.2.2.1 ∧ gI M 450 a = w.2.2.2 ∧ w.2.1.length ≤ 6 ∧ ∀ (i : Nat) (v : Int64), w.2.1[i]? = some v → aJ M (a + 1) i = v
/-- what was kept of a part: name, sort, of, value (of constants and rows: below 0, if none), words, the row as which it was loaded -/
def cQ (x : Nat) (M : Mem) (q : TQ) (k : Nat) : Prop := kd M k = 5 ∧ gJ M 320 k = q.1 ∧ gI M 321 k = q.2.1 ∧ (8 ≤ q.2.1 → gI M 322 k = q.2.2.1) ∧ (q.2.1 < 8 ∨ q.2.1 = 11 → gJ M 323 k = q.2.2.2.1) ∧ (q.2.1 = 10 → (gJ M 323 k = -1 ↔ q.2.2.2.1 < 0) ∧ (¬ q.2.2.2.1 < 0 → gR M 324 k = some (k + 1) ∧ kd M (k + 1) = 21)) ∧
  (∃ d, gR M 324 k = some d ∧ ((d = k + 1 ∧ kd M d = 21) ∨ (sR M 2 = some d ∧ kd M d = 31 ∧ d < x)) ∧ ln M d = q.2.2.2.2.1.length ∧ q.2.2.2.2.1.length ≤ 16 ∧ ∀ (i : Nat) (v : Int64), q.2.2.2.2.1[i]? = some v → aJ M d i = v) ∧ gI M 325 k = q.2.2.2.2.2
/-- a line: record, build, parts, loaded; ad: where what was kept lies -/
def cL (x : Nat) (M : Mem) (ad : Nat → Nat) (q : TL) (a : Nat) : Prop := kd M a = 6 ∧ gI M 384 a = nI q.1 ∧ gI M 385 a = q.2.1 ∧ gI M 389 a = q.2.2.2 ∧ gR M 387 a = some (a + 1) ∧ kd M (a + 1) = 21 ∧ ln M (a + 1) = 6 ∧
  ∃ pq, gR M 386 a = some pq ∧ kd M pq = 24 ∧ ln M pq = q.2.2.1.length ∧ q.2.2.1.length ≤ 6 ∧ ∀ (p : Nat) (r : TQ), q.2.2.1[p]? = some r → aR M pq p = some (ad p) ∧ x + 57 < ad p ∧ cQ x M r (ad p)
def XE (x : Nat) (M : Mem) (E : List TE) : Prop := isO M x (x + 1) (cE x M) E
def XR (x : Nat) (M : Mem) (R : List TR) : Prop := isO M x (x + 2) (cR x M) R
def XF (x : Nat) (M : Mem) (F : List TF) : Prop := isO M x (x + 3) (cF M) F
def XW (x : Nat) (M : Mem) (W : List TW) (j : Nat) : Prop := isO M x (x + 4) (cW M) (W.map some ++ List.replicate j none) ∧ gI M 708 x = nI W.length
def XO (x : Nat) (M : Mem) (O : List TO) (j : Nat) : Prop := isO M x (x + 5) (cO M) (O.map some ++ List.replicate j none) ∧ gI M 711 x = nI O.length
def XL (x : Nat) (M : Mem) (T : List TL) : Prop := ∃ (as : List Nat) (ad : Nat → Nat → Nat), isL M (x + 10) as ∧ (∀ i j a : Nat, as[i]? = some a → as[j]? = some a → i = j) ∧ as.length = T.length ∧
  (∀ (l p l' p' : Nat) (q q' : TL), T[l]? = some q → T[l']? = some q' → p < q.2.2.1.length → p' < q'.2.2.1.length → ad l p = ad l' p' → l = l' ∧ p = p') ∧
  ∀ (l a : Nat) (q : TL), as[l]? = some a → T[l]? = some q → x + 57 < a ∧ cL x M (ad l) q a
def XS (x : Nat) (M : Mem) (S : TS) : Prop := gI M 709 x = nI S.1 ∧ gI M 712 x = nI S.2.1 ∧ gI M 715 x = nI S.2.2.1.length ∧ (∀ (i : Nat) (c : Int32), S.2.2.1[i]? = some c → aI M (x + 6) i = c) ∧ (∀ i, i < 6 → aJ M (x + 7) i = S.2.2.2.1 i) ∧ (∀ i, i < 5 → aI M (x + 9) i = S.2.2.2.2.1 i) ∧ gI M 721 x = nI S.2.2.2.2.2.1 ∧ gI M 722 x = S.2.2.2.2.2.2.1 ∧ gI M 713 x = nI S.2.2.2.2.2.2.2
/-- the great object's own references -/
def xtab : List (Nat × Nat × Nat × Nat) := [(704, 1, 0, 0), (705, 2, 0, 0), (706, 3, 0, 0), (707, 4, 0, 0), (710, 5, 0, 0), (714, 6, 20, 10), (716, 7, 21, 6), (717, 8, 21, 6), (718, 9, 20, 5), (719, 10, 0, 0), (720, 11, 20, 64)]
def XB (x : Nat) (M : Mem) : Prop := kd M x = 11 ∧ (∀ q ∈ xtab, gR M q.1 x = some (x + q.2.1) ∧ kd M (x + q.2.1) = q.2.2.1 ∧ (20 ≤ q.2.2.1 → ln M (x + q.2.1) = q.2.2.2)) ∧ x + 58 ≤ mT M ∧
  (∃ cs, sR M 0 = some cs ∧ cs < x ∧ kd M cs = 30 ∧ ln M cs = 7 ∧ aI M cs = csv) ∧ (∃ wi, sR M 1 = some wi ∧ wi < x ∧ kd M wi = 30 ∧ ln M wi = 12 ∧ aI M wi = wiv) ∧
  (∃ no, sR M 2 = some no ∧ no < x ∧ kd M no = 31 ∧ ln M no = 0) ∧ (∃ de, sR M 3 = some de ∧ de < x ∧ kd M de = 33 ∧ ln M de = 0)
section XB
variable {x : Nat} {M : Mem}
theorem XB.k (h : XB x M) : kd M x = 11 := h.1
theorem XB.r1 (h : XB x M) : gR M 704 x = some (x + 1) ∧ kd M (x + 1) = 0 := ⟨(h.2.1 (704, 1, 0, 0) (by decide)).1, (h.2.1 (704, 1, 0, 0) (by decide)).2.1⟩
theorem XB.r2 (h : XB x M) : gR M 705 x = some (x + 2) ∧ kd M (x + 2) = 0 := ⟨(h.2.1 (705, 2, 0, 0) (by decide)).1, (h.2.1 (705, 2, 0, 0) (by decide)).2.1⟩
theorem XB.r3 (h : XB x M) : gR M 706 x = some (x + 3) ∧ kd M (x + 3) = 0 := ⟨(h.2.1 (706, 3, 0, 0) (by decide)).1, (h.2.1 (706, 3, 0, 0) (by decide)).2.1⟩
theorem XB.r4 (h : XB x M) : gR M 707 x = some (x + 4) ∧ kd M (x + 4) = 0 := ⟨(h.2.1 (707, 4, 0, 0) (by decide)).1, (h.2.1 (707, 4, 0, 0) (by decide)).2.1⟩
theorem XB.r5 (h : XB x M) : gR M 710 x = some (x + 5) ∧ kd M (x + 5) = 0 := ⟨(h.2.1 (710, 5, 0, 0) (by decide)).1, (h.2.1 (710, 5, 0, 0) (by decide)).2.1⟩
theorem XB.r10 (h : XB x M) : gR M 719 x = some (x + 10) ∧ kd M (x + 10) = 0 := ⟨(h.2.1 (719, 10, 0, 0) (by decide)).1, (h.2.1 (719, 10, 0, 0) (by decide)).2.1⟩
theorem XB.r6 (h : XB x M) : gR M 714 x = some (x + 6) ∧ kd M (x + 6) = 20 ∧ ln M (x + 6) = 10 := ⟨(h.2.1 (714, 6, 20, 10) (by decide)).1, (h.2.1 (714, 6, 20, 10) (by decide)).2.1, (h.2.1 (714, 6, 20, 10) (by decide)).2.2 (by decide)⟩
theorem XB.r7 (h : XB x M) : gR M 716 x = some (x + 7) ∧ kd M (x + 7) = 21 ∧ ln M (x + 7) = 6 := ⟨(h.2.1 (716, 7, 21, 6) (by decide)).1, (h.2.1 (716, 7, 21, 6) (by decide)).2.1, (h.2.1 (716, 7, 21, 6) (by decide)).2.2 (by decide)⟩
theorem XB.r8 (h : XB x M) : gR M 717 x = some (x + 8) ∧ kd M (x + 8) = 21 ∧ ln M (x + 8) = 6 := ⟨(h.2.1 (717, 8, 21, 6) (by decide)).1, (h.2.1 (717, 8, 21, 6) (by decide)).2.1, (h.2.1 (717, 8, 21, 6) (by decide)).2.2 (by decide)⟩
theorem XB.r9 (h : XB x M) : gR M 718 x = some (x + 9) ∧ kd M (x + 9) = 20 ∧ ln M (x + 9) = 5 := ⟨(h.2.1 (718, 9, 20, 5) (by decide)).1, (h.2.1 (718, 9, 20, 5) (by decide)).2.1, (h.2.1 (718, 9, 20, 5) (by decide)).2.2 (by decide)⟩
theorem XB.r11 (h : XB x M) : gR M 720 x = some (x + 11) ∧ kd M (x + 11) = 20 ∧ ln M (x + 11) = 64 := ⟨(h.2.1 (720, 11, 20, 64) (by decide)).1, (h.2.1 (720, 11, 20, 64) (by decide)).2.1, (h.2.1 (720, 11, 20, 64) (by decide)).2.2 (by decide)⟩
theorem XB.de (h : XB x M) : ∀ d, sR M 3 = some d → d < mT M ∧ kd M d ≠ 23 := by
  obtain ⟨-, -, h1, -, -, -, de, e1, e2, e3, -⟩ := h
  intro d hd
  rw [e1] at hd
  cases hd
  omega
end XB
section XFR
variable {x n : Nat} {K L AI AJ : Nat → Prop} {M M' : Mem}
theorem XB.fr (h : XB x M) (f : Fr x K L AI AJ n M M') (hK : ∀ q ∈ xtab, ¬ K q.1) (hA : ∀ a, a < x → ¬ AI a) : XB x M' := by
  obtain ⟨h1, h2, h3, ⟨cs, c1, c2, c3, c4, c5⟩, ⟨wi, w1, w2, w3, w4, w5⟩, ⟨no, n1, n2, n3, n4⟩, ⟨de, d1, d2, d3, d4⟩⟩ := h
  have hT := f.fT
  refine ⟨by rw [f.fk (by omega)]; exact h1, fun q hq => ?_, by omega, ⟨cs, by rw [f.fs]; exact c1, c2, by rw [f.fk (by omega)]; exact c3, by rw [f.fl (by omega)]; exact c4, by rw [f.eI (by omega) (hA cs c2)]; exact c5⟩, ⟨wi, by rw [f.fs]; exact w1, w2, by rw [f.fk (by omega)]; exact w3, by rw [f.fl (by omega)]; exact w4, by rw [f.eI (by omega) (hA wi w2)]; exact w5⟩, ⟨no, by rw [f.fs]; exact n1, n2, by rw [f.fk (by omega)]; exact n3, by rw [f.fl (by omega)]; exact n4⟩, ⟨de, by rw [f.fs]; exact d1, d2, by rw [f.fk (by omega)]; exact d3, by rw [f.fl (by omega)]; exact d4⟩⟩
  obtain ⟨g1, g2, g3⟩ := h2 q hq
  have hb : ∀ q ∈ xtab, 3 ≤ q.1 ∧ q.2.1 ≤ 11 := by decide
  obtain ⟨b1, b2⟩ := hb q hq
  exact ⟨by rw [f.fR b1 (by omega) (hK q hq)]; exact g1, by rw [f.fk (by omega)]; exact g2, fun z => by rw [f.fl (by omega)]; exact g3 z⟩
theorem cC.fr {q : TC} {k : Nat} (h : cC M q k) (f : Fr x K L AI AJ n M M') (hK : ¬ K 128 ∧ ¬ K 129) : cC M' q k := by
  obtain ⟨h1, h2, h3⟩ := h
  have hk := lt_of_kd f.v0 h1 (by omega)
  exact ⟨by rw [f.fk hk]; exact h1, by rw [f.fJ (by omega) hk hK.1]; exact h2, by rw [f.fI (by omega) hk hK.2]; exact h3⟩
theorem cE.fr {q : TE} {a : Nat} (h : cE x M q a) (f : Fr x K L AI AJ n M M') (hK : ∀ k ∈ [128, 129, 192, 193, 194, 195], ¬ K k) (hL : ¬ L (a + 1)) : cE x M' q a := by
  obtain ⟨h1, h2, h3, h4, h5, h6⟩ := h
  have hk := lt_of_kd f.v0 h1 (by omega)
  exact ⟨by rw [f.fk hk]; exact h1, by rw [f.fR (by omega) hk (hK 192 (by decide))]; exact h2, by rw [f.fI (by omega) hk (hK 193 (by decide))]; exact h3, by rw [f.fI (by omega) hk (hK 194 (by decide))]; exact h4, by rw [f.fI (by omega) hk (hK 195 (by decide))]; exact h5, h6.mono (f.ls hL) (fun q a _ h => h.fr f ⟨hK 128 (by decide), hK 129 (by decide)⟩)⟩
theorem XE.fr {E : List TE} (h : XE x M E) (f : Fr x K L AI AJ n M M') (hK : ∀ k ∈ [128, 129, 192, 193, 194, 195], ¬ K k) (hL1 : ¬ L (x + 1)) (hL2 : ∀ a, x + 57 < a → kd M a = 3 → ¬ L (a + 1)) : XE x M' E :=
  isO.mono h (f.ls hL1) (fun _ a ha h => h.fr f hK (hL2 a ha h.1))
theorem cP.fr {q : TP} {k : Nat} (h : cP M q k) (f : Fr x K L AI AJ n M M') (hK : ∀ k ∈ [512, 513, 514, 515], ¬ K k) : cP M' q k := by
  obtain ⟨h1, h2, h3, h4, h5⟩ := h
  have hk := lt_of_kd f.v0 h1 (by omega)
  exact ⟨by rw [f.fk hk]; exact h1, by rw [f.fJ (by omega) hk (hK 512 (by decide))]; exact h2, by rw [f.fI (by omega) hk (hK 513 (by decide))]; exact h3, fun z => by rw [f.fI (by omega) hk (hK 514 (by decide))]; exact h4 z, by rw [f.fJ (by omega) hk (hK 515 (by decide))]; exact h5⟩
theorem cK.fr {q : TK} {k : Nat} (h : cK M q k) (f : Fr x K L AI AJ n M M') (hK : ∀ k ∈ [64, 65, 66, 67], ¬ K k) : cK M' q k := by
  obtain ⟨h1, h2, h3, h4, h5⟩ := h
  have hk := lt_of_kd f.v0 h1 (by omega)
  exact ⟨by rw [f.fk hk]; exact h1, by rw [f.fI (by omega) hk (hK 64 (by decide))]; exact h2, by rw [f.fI (by omega) hk (hK 65 (by decide))]; exact h3, by rw [f.fJ (by omega) hk (hK 66 (by decide))]; exact h4, by rw [f.fJ (by omega) hk (hK 67 (by decide))]; exact h5⟩
theorem cR.fr {q : TR} {a : Nat} (h : cR x M q a) (f : Fr x K L AI AJ n M M') (hK : ∀ k ∈ [512, 513, 514, 515, 64, 65, 66, 67, 576, 577, 578], ¬ K k) (hL : ¬ L (a + 1) ∧ ¬ L (a + 2)) : cR x M' q a := by
  obtain ⟨h1, h2, h3, h4, h5, h6⟩ := h
  have hk := lt_of_kd f.v0 h1 (by omega)
  exact ⟨by rw [f.fk hk]; exact h1, by rw [f.fR (by omega) hk (hK 576 (by decide))]; exact h2, by rw [f.fR (by omega) hk (hK 577 (by decide))]; exact h3, by rw [f.fI (by omega) hk (hK 578 (by decide))]; exact h4, h5.mono (f.ls hL.1) (fun q a _ h => h.fr f (fun k hk => hK k (by revert hk; revert k; decide))), h6.mono (f.ls hL.2) (fun q a _ h => h.fr f (fun k hk => hK k (by revert hk; revert k; decide)))⟩
theorem XR.fr {R : List TR} (h : XR x M R) (f : Fr x K L AI AJ n M M') (hK : ∀ k ∈ [512, 513, 514, 515, 64, 65, 66, 67, 576, 577, 578], ¬ K k) (hL1 : ¬ L (x + 2)) (hL2 : ∀ a, x + 57 < a → kd M a = 9 → kd M (a + 1) = 0 → ¬ L (a + 1) ∧ ¬ L (a + 2)) : XR x M' R :=
  isO.mono h (f.ls hL1) (fun _ a ha h => h.fr f hK (hL2 a ha h.1 h.2.2.2.2.1.k))
theorem cF.fr {q : TF} {a : Nat} (h : cF M q a) (f : Fr x K L AI AJ n M M') (hK : ∀ k ∈ [256, 257, 258, 259], ¬ K k) (hA : ¬ AI (a + 1) ∧ ¬ AI (a + 2)) : cF M' q a := by
  obtain ⟨h1, ⟨h2, h3, h4, h5, h6, h7⟩, ⟨g2, g3, g4, g5, g6, g7⟩⟩ := h
  have hk := lt_of_kd f.v0 h1 (by omega)
  have hk1 := lt_of_kd f.v0 h4 (by omega)
  have hk2 := lt_of_kd f.v0 g4 (by omega)
  exact ⟨by rw [f.fk hk]; exact h1, ⟨by rw [f.fR (by omega) hk (hK 256 (by decide))]; exact h2, by rw [f.fI (by omega) hk (hK 257 (by decide))]; exact h3, by rw [f.fk hk1]; exact h4, by rw [f.fl hk1]; exact h5, h6, fun i c hc => by rw [f.eI hk1 hA.1]; exact h7 i c hc⟩, ⟨by rw [f.fR (by omega) hk (hK 258 (by decide))]; exact g2, by rw [f.fI (by omega) hk (hK 259 (by decide))]; exact g3, by rw [f.fk hk2]; exact g4, by rw [f.fl hk2]; exact g5, g6, fun i c hc => by rw [f.eI hk2 hA.2]; exact g7 i c hc⟩⟩
theorem XF.fr {F : List TF} (h : XF x M F) (f : Fr x K L AI AJ n M M') (hK : ∀ k ∈ [256, 257, 258, 259], ¬ K k) (hL1 : ¬ L (x + 3)) (hA : ∀ a, x + 57 < a → kd M a = 4 → ¬ AI (a + 1) ∧ ¬ AI (a + 2)) : XF x M' F :=
  isO.mono h (f.ls hL1) (fun _ a ha h => h.fr f hK (hA a ha h.1))
theorem cW.fr {q : Option TW} {a : Nat} (h : cW M q a) (f : Fr x K L AI AJ n M M') (hK : ∀ k ∈ [640, 641, 642], ¬ K k) (hA : ¬ AJ (a + 1)) : cW M' q a := by
  obtain ⟨h1, h2, h3, h4, h5⟩ := h
  have hk := lt_of_kd f.v0 h1 (by omega)
  have hk1 := lt_of_kd f.v0 h3 (by omega)
  refine ⟨by rw [f.fk hk]; exact h1, by rw [f.fR (by omega) hk (hK 642 (by decide))]; exact h2, by rw [f.fk hk1]; exact h3, by rw [f.fl hk1]; exact h4, fun w hw => ?_⟩
  obtain ⟨g1, g2, g3, g4⟩ := h5 w hw
  exact ⟨by rw [f.fI (by omega) hk (hK 640 (by decide))]; exact g1, by rw [f.fI (by omega) hk (hK 641 (by decide))]; exact g2, g3, fun i v hv => by rw [f.eJ hk1 hA]; exact g4 i v hv⟩
theorem XW.fr {W : List TW} {j : Nat} (h : XW x M W j) (hB : XB x M) (f : Fr x K L AI AJ n M M') (hK : ∀ k ∈ [640, 641, 642, 708], ¬ K k) (hL1 : ¬ L (x + 4)) (hA : ∀ a, x + 57 < a → kd M a = 10 → ¬ AJ (a + 1)) : XW x M' W j :=
  ⟨isO.mono h.1 (f.ls hL1) (fun _ a ha h => h.fr f (fun k hk => hK k (by revert hk; revert k; decide)) (hA a ha h.1)), by rw [f.fI (by omega) (lt_of_kd f.v0 hB.k (by omega)) (hK 708 (by decide))]; exact h.2⟩
theorem cO.fr {q : Option TO} {a : Nat} (h : cO M q a) (f : Fr x K L AI AJ n M M') (hK : ∀ k ∈ [448, 449, 450, 451], ¬ K k) (hA : ¬ AJ (a + 1)) : cO M' q a := by
  obtain ⟨h1, h2, h3, h4, h5⟩ := h
  have hk := lt_of_kd f.v0 h1 (by omega)
  have hk1 := lt_of_kd f.v0 h3 (by omega)
  refine ⟨by rw [f.fk hk]; exact h1, by rw [f.fR (by omega) hk (hK 449 (by decide))]; exact h2, by rw [f.fk hk1]; exact h3, by rw [f.fl hk1]; exact h4, fun w hw => ?_⟩
  obtain ⟨g1, g2, g3, g4, g5⟩ := h5 w hw
  exact ⟨by rw [f.fI (by omega) hk (hK 448 (by decide))]; exact g1, by rw [f.fI (by omega) hk (hK 451 (by decide))]; exact g2, by rw [f.fI (by omega) hk (hK 450 (by decide))]; exact g3, g4, fun i v hv => by rw [f.eJ hk1 hA]; exact g5 i v hv⟩
theorem XO.fr {O : List TO} {j : Nat} (h : XO x M O j) (hB : XB x M) (f : Fr x K L AI AJ n M M') (hK : ∀ k ∈ [448, 449, 450, 451, 711], ¬ K k) (hL1 : ¬ L (x + 5)) (hA : ∀ a, x + 57 < a → kd M a = 7 → ¬ AJ (a + 1)) : XO x M' O j :=
  ⟨isO.mono h.1 (f.ls hL1) (fun _ a ha h => h.fr f (fun k hk => hK k (by revert hk; revert k; decide)) (hA a ha h.1)), by rw [f.fI (by omega) (lt_of_kd f.v0 hB.k (by omega)) (hK 711 (by decide))]; exact h.2⟩
theorem cQ.fr {q : TQ} {k : Nat} (h : cQ x M q k) (f : Fr x K L AI AJ n M M') (hK : ∀ k ∈ [320, 321, 322, 323, 324, 325], ¬ K k) (hA : ¬ AJ (k + 1) ∧ ∀ d, d < x → ¬ AJ d) : cQ x M' q k := by
  obtain ⟨h1, h2, h3, h4, h5, h6, ⟨d, g1, g2, g3, g4, g5⟩, h8⟩ := h
  have hk := lt_of_kd f.v0 h1 (by omega)
  have hd : d < mT M := by
    rcases g2 with ⟨-, g2⟩ | ⟨-, -, g2⟩
    · exact lt_of_kd f.v0 g2 (by omega)
    · have := f.v0.1; omega
  have hAd : ¬ AJ d := by
    rcases g2 with ⟨g2, -⟩ | ⟨-, -, g2⟩
    · rw [g2]; exact hA.1
    · exact hA.2 d g2
  refine ⟨by rw [f.fk hk]; exact h1, by rw [f.fJ (by omega) hk (hK 320 (by decide))]; exact h2, by rw [f.fI (by omega) hk (hK 321 (by decide))]; exact h3, fun z => by rw [f.fI (by omega) hk (hK 322 (by decide))]; exact h4 z, fun z => by rw [f.fJ (by omega) hk (hK 323 (by decide))]; exact h5 z, fun z => ⟨by rw [f.fJ (by omega) hk (hK 323 (by decide))]; exact (h6 z).1, fun w => ⟨by rw [f.fR (by omega) hk (hK 324 (by decide))]; exact ((h6 z).2 w).1, by rw [f.fk (lt_of_kd f.v0 ((h6 z).2 w).2 (by omega))]; exact ((h6 z).2 w).2⟩⟩, ⟨d, by rw [f.fR (by omega) hk (hK 324 (by decide))]; exact g1, by rw [f.fk hd, f.fs]; exact g2, by rw [f.fl hd]; exact g3, g4, fun i v hv => by rw [f.eJ hd hAd]; exact g5 i v hv⟩, by rw [f.fI (by omega) hk (hK 325 (by decide))]; exact h8⟩
theorem cL.fr {ad : Nat → Nat} {q : TL} {a : Nat} (h : cL x M ad q a) (f : Fr x K L AI AJ n M M') (hK : ∀ k ∈ [320, 321, 322, 323, 324, 325, 384, 385, 386, 387, 389], ¬ K k) (hA : (∀ k, x + 57 < k → kd M k = 5 → ¬ AJ (k + 1)) ∧ ∀ d, d < x → ¬ AJ d) : cL x M' ad q a := by
  obtain ⟨h1, h2, h3, h4, h5, h6, h7, pq, g1, g2, g3, g4, g5⟩ := h
  have hk := lt_of_kd f.v0 h1 (by omega)
  have hk1 := lt_of_kd f.v0 h6 (by omega)
  have hp := lt_of_kd f.v0 g2 (by omega)
  refine ⟨by rw [f.fk hk]; exact h1, by rw [f.fI (by omega) hk (hK 384 (by decide))]; exact h2, by rw [f.fI (by omega) hk (hK 385 (by decide))]; exact h3, by rw [f.fI (by omega) hk (hK 389 (by decide))]; exact h4, by rw [f.fR (by omega) hk (hK 387 (by decide))]; exact h5, by rw [f.fk hk1]; exact h6, by rw [f.fl hk1]; exact h7, pq, by rw [f.fR (by omega) hk (hK 386 (by decide))]; exact g1, by rw [f.fk hp]; exact g2, by rw [f.fl hp]; exact g3, g4, fun p r hr => ?_⟩
  obtain ⟨y1, y2, y3⟩ := g5 p r hr
  exact ⟨by rw [f.fq hp g2]; exact y1, y2, y3.fr f (fun k hk => hK k (by revert hk; revert k; decide)) ⟨hA.1 _ y2 y3.1, hA.2⟩⟩
theorem XL.fr {T : List TL} (h : XL x M T) (f : Fr x K L AI AJ n M M') (hK : ∀ k ∈ [320, 321, 322, 323, 324, 325, 384, 385, 386, 387, 389], ¬ K k) (hL1 : ¬ L (x + 10)) (hA : (∀ k, x + 57 < k → kd M k = 5 → ¬ AJ (k + 1)) ∧ ∀ d, d < x → ¬ AJ d) : XL x M' T := by
  obtain ⟨as, ad, h1, h2, h3, h4, h5⟩ := h
  exact ⟨as, ad, f.ls hL1 as h1, h2, h3, h4, fun l a q hl hq => ⟨(h5 l a q hl hq).1, (h5 l a q hl hq).2.fr f hK hA⟩⟩
theorem XS.fr {S : TS} (h : XS x M S) (hB : XB x M) (f : Fr x K L AI AJ n M M') (hK : ∀ k ∈ [709, 712, 713, 715, 721, 722], ¬ K k) (hI : ¬ AI (x + 6) ∧ ¬ AI (x + 9)) (hJ : ¬ AJ (x + 7)) : XS x M' S := by
  obtain ⟨h1, h2, h3, h4, h5, h6, h7, h8, h9⟩ := h
  have hk := lt_of_kd f.v0 hB.k (by omega)
  have hT := hB.2.2.1
  exact ⟨by rw [f.fI (by omega) hk (hK 709 (by decide))]; exact h1, by rw [f.fI (by omega) hk (hK 712 (by decide))]; exact h2, by rw [f.fI (by omega) hk (hK 715 (by decide))]; exact h3, fun i c hc => by rw [f.eI (by omega) hI.1]; exact h4 i c hc, fun i hi => by rw [f.eJ (by omega) hJ]; exact h5 i hi, fun i hi => by rw [f.eI (by omega) hI.2]; exact h6 i hi, by rw [f.fI (by omega) hk (hK 721 (by decide))]; exact h7, by rw [f.fI (by omega) hk (hK 722 (by decide))]; exact h8, by rw [f.fI (by omega) hk (hK 713 (by decide))]; exact h9⟩
end XFR
