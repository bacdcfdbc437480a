/-! BUILD: lines, the model, the call -/
theorem uI_self (M : Mem) (d : Nat) : uI M d (aI M d) = M := by
  have h : up1 (aI M) d (aI M d) = aI M := funext fun b => by
    by_cases q : b = d
    · subst q; exact up1_at
    · exact up1_no q
  unfold uI
  rw [h]
  rfl
theorem uI_uI (M : Mem) (d : Nat) (f g : Nat → Int32) : uI (uI M d f) d g = uI M d g := by
  show (mT M, mS M, kd M, gI M, gJ M, gR M, ln M, up1 (up1 (aI M) d f) d g, aJ M, aR M, sR M) = _
  rw [up1_up1]
  rfl
section OPS
variable {x : Nat} {E E' : List TE} {R R' : List TR} {F F' : List TF} {W W' : List TW} {O O' : List TO} {T T' : List TL} {S S' : TS} {jW jO jW' jO' n : Nat} {M M' M1 : Mem}
theorem rs_at {α : Type} {f : α → α} {l : List α} {p : Nat} {r : α} (h : (l.map f)[p]? = some r) : ∃ t, l[p]? = some t ∧ r = f t := by
  rw [List.getElem?_map] at h
  cases hl : l[p]? with
  | none => rw [hl] at h; exact nomatch h
  | some t =>
    rw [hl] at h
    cases h
    exact ⟨t, rfl, rfl⟩
theorem cL_unl {ad : Nat → Nat} {q : TL} {a : Nat} (hc : cL x M ad q a) (hg : GI (fun k b => (k = 389 ∧ b = a) ∨ (k = 325 ∧ ∃ p, p < q.2.2.1.length ∧ b = ad p)) M M') (h389 : gI M' 389 a = -1) (h325 : ∀ p, p < q.2.2.1.length → gI M' 325 (ad p) = -1) : cL x M' ad (rsL q) a := by
  obtain ⟨c1, c2, c3, c4, c5, c6, c7, pq, g1, g2, g3, g4, g5⟩ := hc
  obtain ⟨⟨a1, a2, a3, a4, a5, a6, a7, a8, a9, a10⟩, b⟩ := id hg
  have el : (rsL q).2.2.1.length = q.2.2.1.length := List.length_map _
  refine ⟨by rw [a3]; exact c1, by rw [b _ _ (by omega)]; exact c2, by rw [b _ _ (by omega)]; exact c3, h389, by rw [a5]; exact c5, by rw [a3]; exact c6, by rw [a6]; exact c7, pq, by rw [a5]; exact g1, by rw [a3]; exact g2, by rw [a6, el]; exact g3, by rw [el]; exact g4, fun p r hr => ?_⟩
  obtain ⟨t, ht, rfl⟩ := rs_at hr
  have hp : p < q.2.2.1.length := (List.getElem?_eq_some_iff.mp ht).1
  obtain ⟨y1, y2, z1, z2, z3, z4, z5, z6, z7, z8⟩ := g5 p t ht
  exact ⟨by rw [a9]; exact y1, y2, by rw [a3]; exact z1, by rw [a4]; exact z2, by rw [b _ _ (by omega)]; exact z3, fun w => by rw [b _ _ (by omega)]; exact z4 w, fun w => by rw [a4]; exact z5 w, fun w => by rw [a3, a4, a5]; exact z6 w, by rw [a3, a5, a6, a8, a10]; exact z7, h325 p hp⟩
theorem c_bL {v : Int32} {as : List Nat} {ad : Nat → Nat → Nat} : ∀ (n i : Nat) (M : Mem), n + i = T.length → XB x M → PIv x M → LI M → XLa x M as ad ((T.take i).map rsL ++ T.drop i) → ∃ M', rn PP 85 117 [some (pR (some x)), some (pI v), some (pI (nI i))] [] M = some (some (pI v), sI M' 721 x (gI M' 721 x + 1)) ∧ XLa x M' as ad (T.map rsL) ∧ Fr x (fun k => k = 389 ∨ k = 325) No No No 0 M M' := by
  intro n
  induction n with
  | zero =>
    intro i M hi hB hv hL hX
    have hsz := hX.size
    have hl := hX.len
    rw [mix_len] at hsz hl
    rw [mix_end (by omega)] at hX
    refine ⟨M, ?_, hX, Fr.rf hv hL⟩
    rw [tX11_build_117]
    exact rd_i rfl hB.k (rd_i hB.r10.1 hB.r10.2 (clI_i hsz (it_t (nI_le (by omega) (by omega)) (rd_i rfl hB.k (rd_i rfl hB.k (bd_i rfl))))))
  | succ n ih =>
    intro i M hi hB hv hL hX
    have hsz := hX.size
    have hl := hX.len
    rw [mix_len] at hsz hl
    have hil : i < T.length := by omega
    obtain ⟨m1, m2⟩ := mix_at (f := rsL) (List.getElem?_eq_getElem hil)
    obtain ⟨a, ga, g1, g2, g3⟩ := hX.at m1
    generalize T[i] = q at m1 m2 g3
    obtain ⟨M1, e61, hg, h389, h325⟩ := c_unload g3
    have f1 : Fr x (fun k => k = 389 ∨ k = 325) No No No 0 M M1 := hg.fr hv hL (fun k b h => by omega)
    have cn := cL_unl g3 hg h389 h325
    have hX1 := hX.set ga m1 (f1.ls id) (List.length_map _) cn (fun l' a' r h1 h2 h3 h4 h5 h6 => h6.gi hg (fun j hj q => by
      rcases q with ⟨rfl, q⟩ | ⟨rfl, q⟩
      · exact h2 q
      · exact absurd hj (by decide)) (fun p hp j hj q => by
      rcases q with ⟨rfl, q⟩ | ⟨rfl, p', hp', q⟩
      · exact absurd hj (by decide)
      · exact h3 p p' hp hp' q))
    rw [m2] at hX1
    obtain ⟨M', e1, e2, e3⟩ := ih (i + 1) M1 (by omega) (hB.fr f1 (by decide) (fun _ _ => id)) f1.v f1.li hX1
    refine ⟨M', ?_, e2, f1.tr e3⟩
    rw [tX11_build_117, ← e1]
    refine rd_i rfl hB.k (rd_i hB.r10.1 hB.r10.2 (clI_i hsz (it_f (nI_ge hil (by omega)) (rd_i rfl hB.k (rd_i hB.r10.1 hB.r10.2 (clR_i g1 (ck_s rfl g3.1 (rd_i rfl g3.1 (clV_i e61 ?_)))))))))
    rw [nI_1]
/-- rows and objects wait for the next build -/
theorem isO.wait {α : Type} {l j : Nat} {P : Option α → Nat → Prop} {V : List α} (h : isO M x l P (V.map some ++ List.replicate j none)) (hP : ∀ w a, P w a → P none a) : isO M x l P (([] : List α).map some ++ List.replicate (V.length + j) none) := by
  obtain ⟨as, h1, h2, h3, h4⟩ := h
  have hlen : (V.map some ++ List.replicate j (none : Option α)).length = V.length + j := by rw [List.length_append, List.length_map, List.length_replicate]
  refine ⟨as, h1, h2, by rw [h3, hlen]; simp, fun i a q hi hq => ?_⟩
  have hil : i < (V.map some ++ List.replicate j (none : Option α)).length := by rw [← h3]; exact (List.getElem?_eq_some_iff.mp hi).1
  obtain ⟨y1, y2⟩ := h4 i a _ hi (List.getElem?_eq_getElem hil)
  have hq : (List.replicate (V.length + j) (none : Option α))[i]? = some q := hq
  rw [List.getElem?_replicate] at hq
  by_cases z : i < V.length + j
  · rw [if_pos z] at hq
    cases hq
    exact ⟨y1, hP _ _ y2⟩
  · rw [if_neg z] at hq
    exact nomatch hq
def bldS (S : TS) : TS := (0, 0, [], S.2.2.2.1, S.2.2.2.2.1, S.2.2.2.2.2.1, S.2.2.2.2.2.2.1, 0)
theorem c_build (hX : XI x E R F W O T S jW jO M) (hb : S.2.2.2.2.2.1 < 1000) : ∃ M', ex 85 3 [pR (some x)] M = some (some (pI (nI O.length)), M') ∧ XI x (E.map rsE) (R.map rsR) F [] [] (T.map rsL) (0, 0, [], S.2.2.2.1, S.2.2.2.2.1, S.2.2.2.2.2.1 + 1, S.2.2.2.2.2.2.1, 0) (W.length + jW) (O.length + jO) M' ∧ Fr x KX No No No 0 M M' := by
  obtain ⟨⟨hB, hv, hL⟩, h1, h2, h3, h4, h5, h6, h7⟩ := id hX
  have f0 : Fr x KX No No No 0 M M := Fr.rf hv hL
  have f1 : Fr x KX No No No 0 M (sI M 711 x 0) := f0.bI (Or.inl ⟨by omega, by decide⟩)
  have f2 : Fr x KX No No No 0 M (sI (sI M 711 x 0) 712 x 0) := f1.bI (Or.inl ⟨by omega, by decide⟩)
  have f3 : Fr x KX No No No 0 M (sI (sI (sI M 711 x 0) 712 x 0) 713 x 0) := f2.bI (Or.inl ⟨by omega, by decide⟩)
  have f4 : Fr x KX No No No 0 M (sI (sI (sI (sI M 711 x 0) 712 x 0) 713 x 0) 708 x 0) := f3.bI (Or.inl ⟨by omega, by decide⟩)
  have f5 : Fr x KX No No No 0 M (sI (sI (sI (sI (sI M 711 x 0) 712 x 0) 713 x 0) 708 x 0) 709 x 0) := f4.bI (Or.inl ⟨by omega, by decide⟩)
  have f6 : Fr x KX No No No 0 M (sI (sI (sI (sI (sI (sI M 711 x 0) 712 x 0) 713 x 0) 708 x 0) 709 x 0) 715 x 0) := f5.bI (Or.inl ⟨by omega, by decide⟩)
  have gi : GI (fun k a => a = x ∧ (k = 711 ∨ k = 712 ∨ k = 713 ∨ k = 708 ∨ k = 709 ∨ k = 715)) M (sI (sI (sI (sI (sI (sI M 711 x 0) 712 x 0) 713 x 0) 708 x 0) 709 x 0) 715 x 0) := (((((GI.rf.sI ⟨rfl, by omega⟩).sI ⟨rfl, by omega⟩).sI ⟨rfl, by omega⟩).sI ⟨rfl, by omega⟩).sI ⟨rfl, by omega⟩).sI ⟨rfl, by omega⟩
  have z : (gI (sI (sI (sI (sI (sI (sI M 711 x 0) 712 x 0) 713 x 0) 708 x 0) 709 x 0) 715 x 0) 711 x = 0 ∧ gI (sI (sI (sI (sI (sI (sI M 711 x 0) 712 x 0) 713 x 0) 708 x 0) 709 x 0) 715 x 0) 712 x = 0 ∧ gI (sI (sI (sI (sI (sI (sI M 711 x 0) 712 x 0) 713 x 0) 708 x 0) 709 x 0) 715 x 0) 713 x = 0) ∧ gI (sI (sI (sI (sI (sI (sI M 711 x 0) 712 x 0) 713 x 0) 708 x 0) 709 x 0) 715 x 0) 708 x = 0 ∧ gI (sI (sI (sI (sI (sI (sI M 711 x 0) 712 x 0) 713 x 0) 708 x 0) 709 x 0) 715 x 0) 709 x = 0 ∧ gI (sI (sI (sI (sI (sI (sI M 711 x 0) 712 x 0) 713 x 0) 708 x 0) 709 x 0) 715 x 0) 715 x = 0 := by
    simp only [gI_sI]
    simp [up2]
  have run : ∀ {r : Option Rt}, rn PP 85 50 [some (pR (some x)), some (pI (nI O.length)), some (pI 0)] [] (sI (sI (sI (sI (sI (sI M 711 x 0) 712 x 0) 713 x 0) 708 x 0) 709 x 0) 715 x 0) = r → ex 85 3 [pR (some x)] M = r := fun hr => by
    rw [tX11_build]
    refine rd_i rfl hB.k (it_t ?_ (rd_i rfl hB.k (rd_i rfl hB.k (bd_i (rd_i rfl hB.k (bd_i (rd_i rfl hB.k (bd_i (rd_i rfl hB.k (bd_i (rd_i rfl hB.k (bd_i (rd_i rfl hB.k (bd_i ?_))))))))))))))
    · rw [h7.2.2.2.2.2.2.1]
      exact nI_lt (b := 1000) hb (by decide)
    · rw [h5.2]
      exact hr
  clear f1 f2 f3 f4 f5
  generalize sI (sI (sI (sI (sI (sI M 711 x 0) 712 x 0) 713 x 0) 708 x 0) 709 x 0) 715 x 0 = Ma at f6 gi z run
  have fk : Fr x (fun k => k = 711 ∨ k = 712 ∨ k = 713 ∨ k = 708 ∨ k = 709 ∨ k = 715) No No No 0 M Ma := gi.fr hv hL (fun k a q => by omega)
  obtain ⟨⟨a1, a2, a3, a4, a5, a6, a7, a8, a9, a10⟩, b⟩ := gi
  have hXa : XI x E R F [] [] T (bldS S) (W.length + jW) (O.length + jO) Ma := by
    refine ⟨⟨hB.fr fk (by decide) (fun _ _ => id), fk.v, fk.li⟩, h1.fr fk (by decide) id (fun _ _ _ => id), h2.fr fk (by decide) id (fun _ _ _ _ => ⟨id, id⟩), h3.fr fk (by decide) id (fun _ _ _ => ⟨id, id⟩), ⟨?_, ?_⟩, ⟨?_, ?_⟩, h6.fr fk (by decide) id ⟨fun _ _ _ => id, fun _ _ => id⟩, ?_⟩
    · exact isO.mono (isO.wait h4.1 (fun w a h => ⟨h.1, h.2.1, h.2.2.1, h.2.2.2.1, fun w hw => nomatch hw⟩)) (fk.ls id) (fun q a _ h => h.fr fk (by decide) id)
    · rw [z.2.1]; rfl
    · exact isO.mono (isO.wait h5.1 (fun w a h => ⟨h.1, h.2.1, h.2.2.1, h.2.2.2.1, fun w hw => nomatch hw⟩)) (fk.ls id) (fun q a _ h => h.fr fk (by decide) id)
    · rw [z.1.1]; rfl
    · obtain ⟨s1, s2, s3, s4, s5, s6, s7, s8, s9⟩ := h7
      refine ⟨by rw [z.2.2.1]; rfl, by rw [z.1.2.1]; rfl, by rw [z.2.2.2]; rfl, fun i c hc => by simp [bldS] at hc, fun i hi => by rw [a8]; exact s5 i hi, fun i hi => by rw [a7]; exact s6 i hi, by rw [b _ _ (by omega)]; exact s7, by rw [b _ _ (by omega)]; exact s8, by rw [z.1.2.2]; rfl⟩
  obtain ⟨Mb, e1, hXb, fb⟩ := c_bE (v := nI O.length) E.length 0 Ma (by omega) hXa
  obtain ⟨Mc, e2, hXc, fc⟩ := c_bR (v := nI O.length) R.length 0 Mb (by omega) hXb
  obtain ⟨⟨hBc, hvc, hLc⟩, -, -, -, -, -, ⟨as, ad, hTc⟩, hSc⟩ := id hXc
  obtain ⟨Md, e3, hTd, fd⟩ := c_bL (v := nI O.length) T.length 0 Mc (by omega) hBc hvc hLc hTc
  have hXd : XI x (E.map rsE) (R.map rsR) F [] [] (T.map rsL) (bldS S) (W.length + jW) (O.length + jO) Md := hXc.frL fd (fun k q => by omega) (fun _ q => q.elim) (fun _ q => q.elim) hTd.xl
  have s721 := hXd.2.2.2.2.2.2.2.2.2.2.2.2.2.1
  have fe : Fr x (fun k => k = 721) No No No 0 Md (sI Md 721 x (gI Md 721 x + 1)) := (Fr.rf fd.v fd.li).bI (Or.inl ⟨by omega, rfl⟩)
  refine ⟨sI Md 721 x (gI Md 721 x + 1), ?_, hXd.frS fe (fun k q => by omega) (fun _ q => q.elim) (fun _ q => q.elim) ?_, ?_⟩
  · refine run ?_
    rw [show (0 : Int32) = nI 0 from rfl, e1, show (0 : Int32) = nI 0 from rfl, e2, show (0 : Int32) = nI 0 from rfl, e3]
  · obtain ⟨s1, s2, s3, s4, s5, s6, s7, s8, s9⟩ := hXd.2.2.2.2.2.2.2
    refine ⟨by rw [gI_sI, up2_ne (by omega)]; exact s1, by rw [gI_sI, up2_ne (by omega)]; exact s2, by rw [gI_sI, up2_ne (by omega)]; exact s3, fun i c hc => by simp at hc, s5, s6, ?_, by rw [gI_sI, up2_ne (by omega)]; exact s8, by rw [gI_sI, up2_ne (by omega)]; exact s9⟩
    rw [gI_sI, up2_at, s721]
    exact nI_1 _
  · have q1 := f6.tr (fb.mo (K' := KX) (n' := 0) (Nat.le_refl _) (fun k q => by rcases q with q | q <;> (subst q; decide)) (fun _ => id) (fun _ => id) (fun _ => id))
    have q2 := q1.tr (fc.mo (K' := KX) (n' := 0) (Nat.le_refl _) (fun k q => by subst q; decide) (fun _ => id) (fun _ => id) (fun _ => id))
    have q3 := q2.tr (fd.mo (K' := KX) (n' := 0) (Nat.le_refl _) (fun k q => by rcases q with q | q <;> (subst q; decide)) (fun _ => id) (fun _ => id) (fun _ => id))
    exact q3.tr (fe.mo (K' := KX) (n' := 0) (Nat.le_refl _) (fun k q => by subst q; decide) (fun _ => id) (fun _ => id) (fun _ => id))
end OPS
