/-! OBJECTS: addObject -/
section OPS
variable {x : Nat} {E E' : List TE} {R R' : List TR} {F F' : List TF} {W W' : List TW} {O O' : List TO} {T T' : List TL} {S S' : TS} {jW jO jW' jO' n : Nat} {M M' M1 : Mem}
theorem cpJ_i {α : Type} {r : Option α} {p q : Option Nat} {a b : Nat} {f : Mem → Option α} (hp : p = some a) (hq : q = some b) (ka : kd M a = 21) (kb : kd M b = 21) (la : ln M a = 6) (lb : ln M b = 6) (k : f (uJ M b (va_cpy (aJ M a) (aJ M b) 0 0 6)) = r) : cpJ p 0 q 0 6 M f = r := by
  subst hp
  subst hq
  refine (if_pos ⟨ka, kb, by decide, by decide, by decide, ?_, ?_⟩).trans k
  · rw [la]; decide
  · rw [lb]; decide
/-- what addObject may change -/
abbrev KO : Nat → Prop := fun k => k = 448 ∨ k = 451 ∨ k = 711
abbrev JO (x : Nat) (M : Mem) : Nat → Prop := fun d => x + 58 < d ∧ kd M (d - 1) = 7
theorem c_setO {r d : Nat} {vs : List Int64} (hX : XI x E R F W O T S jW (jO + 1) M) (kd' : kd M d = 21) (ld : ln M d = 6) (hvs : vs.length ≤ 6) (hd : ∀ (i : Nat) (v : Int64), vs[i]? = some v → aJ M d i = v) : ∃ a M' tw, ex 16 2 [pR (some (x + 5)), pI (nI O.length)] M = some (some (pR (some a)), M) ∧ kd M a = 7 ∧ M' = uJ (sI (sI M 448 a (nI r)) 451 a (-1)) (a + 1) (va_cpy (aJ M d) (aJ M (a + 1)) 0 0 6) ∧ (gR M 449 a = some (a + 1) ∧ kd M (a + 1) = 21 ∧ ln M (a + 1) = 6) ∧ XB x M' ∧ XI x E R F W (O ++ [(r, vs, -1, tw)]) T S jW jO (sI M' 711 x (nI O.length + 1)) ∧ Fr x KO No No (JO x M) 0 M (sI M' 711 x (nI O.length + 1)) ∧ gI M' 711 x = nI O.length := by
  obtain ⟨⟨hB, hv, hL⟩, -, -, -, -, hO, -, -⟩ := id hX
  have hat : (O.map some ++ List.replicate (jO + 1) none)[O.length]? = some none := by
    rw [List.getElem?_append_right (by rw [List.length_map]; exact Nat.le_refl _), List.length_map, Nat.sub_self]
    rfl
  obtain ⟨a, g1, g2, g3, g4, -⟩ := hO.1.at hat
  obtain ⟨c1, c2, c3, c4, -⟩ := id g3
  have hlt := hB.lt
  have f0 : Fr x KO No No (fun d => d = a + 1) 0 M (sI M 448 a (nI r)) := (Fr.rf hv hL).bI (Or.inl ⟨by omega, Or.inl rfl⟩)
  have f1 : Fr x KO No No (fun d => d = a + 1) 0 M (sI (sI M 448 a (nI r)) 451 a (-1)) := f0.bI (Or.inl ⟨by omega, Or.inr (Or.inl rfl)⟩)
  have f2 : Fr x KO No No (fun d => d = a + 1) 0 M (uJ (sI (sI M 448 a (nI r)) 451 a (-1)) (a + 1) (va_cpy (aJ M d) (aJ M (a + 1)) 0 0 6)) := f1.bAJ (Or.inl rfl)
  have cn : cO (uJ (sI (sI M 448 a (nI r)) 451 a (-1)) (a + 1) (va_cpy (aJ M d) (aJ M (a + 1)) 0 0 6)) (some (r, vs, -1, gI M 450 a)) a := by
    refine ⟨c1, c2, c3, c4, fun w hw => ?_⟩
    cases hw
    refine ⟨?_, ?_, ?_, hvs, fun i v hi => ?_⟩
    · rw [gI_uJ, gI_sI, up2_ne (by omega), gI_sI, up2_at]
    · rw [gI_uJ, gI_sI, up2_at]
    · rw [gI_uJ, gI_sI, up2_ne (by omega), gI_sI, up2_ne (by omega)]
    · have hi : vs[i]? = some v := hi
      have hil : i < vs.length := (List.getElem?_eq_some_iff.mp hi).1
      rw [aJ_uJ, up1_at]
      unfold va_cpy
      rw [if_pos (by omega)]
      exact hd _ v (by rw [show 0 + (i - 0) = i by omega]; exact hi)
  have hoth : ∀ (q : Option TO) (b : Nat), b ≠ a → x + 57 < b → cO M q b → cO (uJ (sI (sI M 448 a (nI r)) 451 a (-1)) (a + 1) (va_cpy (aJ M d) (aJ M (a + 1)) 0 0 6)) q b := fun q b hne hb hr => by
    obtain ⟨r1, r2, r3, r4, r5⟩ := hr
    refine ⟨r1, r2, r3, r4, fun w hw => ?_⟩
    obtain ⟨s1, s2, s3, s4, s5⟩ := r5 w hw
    refine ⟨by rw [gI_uJ, gI_sI, up2_no hne, gI_sI, up2_no hne]; exact s1, by rw [gI_uJ, gI_sI, up2_no hne, gI_sI, up2_no hne]; exact s2, by rw [gI_uJ, gI_sI, up2_no hne, gI_sI, up2_no hne]; exact s3, s4, fun i v hv => ?_⟩
    rw [aJ_uJ, up1_no (by omega)]
    exact s5 i v hv
  have hO1 := g4 _ (cO _) (some (r, vs, -1, gI M 450 a)) (f2.ls id) cn hoth
  have h711 : gI (uJ (sI (sI M 448 a (nI r)) 451 a (-1)) (a + 1) (va_cpy (aJ M d) (aJ M (a + 1)) 0 0 6)) 711 x = nI O.length := by
    rw [gI_uJ, gI_sI, up2_ne (by omega), gI_sI, up2_ne (by omega)]; exact hO.2
  refine ⟨a, _, gI M 450 a, g1, c1, rfl, ⟨c2, c3, c4⟩, hB.fr f2 (by decide) (fun _ _ => id), ?_, ?_, h711⟩
  · clear cn hoth
    generalize uJ (sI (sI M 448 a (nI r)) 451 a (-1)) (a + 1) (va_cpy (aJ M d) (aJ M (a + 1)) 0 0 6) = Mz at f2 hO1 h711
    have f3 : Fr x KO No No (JO x M) 0 M (sI Mz 711 x (nI O.length + 1)) := (f2.mo (AJ' := JO x M) (n' := 0) (Nat.le_refl _) (fun _ => id) (fun _ => id) (fun _ => id) (fun d q => by subst q; exact ⟨by omega, by rw [Nat.add_sub_cancel]; exact c1⟩)).bI (Or.inl ⟨by omega, Or.inr (Or.inr rfl)⟩)
    have f4 : Fr x (fun k => k = 711) No No No 0 Mz (sI Mz 711 x (nI O.length + 1)) := (Fr.rf f2.v f2.li).bI (Or.inl ⟨by omega, rfl⟩)
    refine hX.frO f3 (fun k q => by omega) (fun _ q => q.elim) (fun d q => q) ⟨?_, ?_⟩
    · have e1 : (O.map some ++ List.replicate (jO + 1) none).set O.length (some (r, vs, -1, gI M 450 a)) = (O ++ [(r, vs, -1, gI M 450 a)]).map some ++ List.replicate jO none := by
        rw [List.set_append_right _ _ (by rw [List.length_map]; exact Nat.le_refl _), List.length_map, Nat.sub_self, List.replicate_succ, List.set_cons_zero, List.map_append, List.append_assoc]
        rfl
      rw [e1] at hO1
      exact isO.mono hO1 (f4.ls id) (fun q b _ h => h.fr f4 (by decide) id)
    · rw [gI_sI, up2_at, List.length_append, nI_1]
      rfl
  · exact (f2.mo (AJ' := JO x M) (n' := 0) (Nat.le_refl _) (fun _ => id) (fun _ => id) (fun _ => id) (fun d q => by subst q; exact ⟨by omega, by rw [Nat.add_sub_cancel]; exact c1⟩)).bI (Or.inl ⟨by omega, Or.inr (Or.inr rfl)⟩)
end OPS
