/-! stores into arrays, new cells, over the machine -/
theorem cell_nO {cA : Nat → ClassId} {M : Mem} {ci n b : Nat} (h : b ≠ mT M) : cellOf cA (nO M ci n) b = cellOf cA M b := by
  refine cell_eq (if_neg h) (fun c j => ?_) (fun _ => ?_)
  · unfold fv
    split
    · exact congrArg Value.long (if_neg h)
    · exact congrArg va_rf (if_neg h)
    · exact congrArg Value.int (if_neg h)
  · have e : kd (nO M ci n) b = kd M b := if_neg h
    unfold arrc
    rw [e]
    rfl
theorem cell_nA {cA : Nat → ClassId} {M : Mem} {ci n b : Nat} (h : b ≠ mT M) : cellOf cA (nA M ci n) b = cellOf cA M b := by
  refine cell_eq (if_neg h) (fun c j => rfl) (fun _ => ?_)
  have e : kd (nA M ci n) b = kd M b := if_neg h
  have e1 : ln (nA M ci n) b = ln M b := if_neg h
  have e2 : aI (nA M ci n) b = aI M b := if_neg h
  have e3 : aJ (nA M ci n) b = aJ M b := if_neg h
  have e4 : aR (nA M ci n) b = aR M b := if_neg h
  unfold arrc
  rw [e, e1, e2, e3, e4]
section ARS
variable {p : Program} {l : Launch} {e : Env} {R : Room} {s : State} {m : MethodId} {args : Array Value} {below : List Frame} {meth : Method} {c : Code} {H : Heap} {locs : List Loc} {cells slots : Nat} {Q : State → Prop} {D : va_G} {cA : Nat → ClassId} {base y pc : Nat} {M : Mem} {lsA : Array Slot} {rest : List Value} {cc : ByteArray}
theorem w_iast {a : Nat} {i v : Int32} (hx : p.tables.exec = Jvm.exec) (hb : c.code = cc) (hK : va_K D cls13 (tys5 cA) s) (hP : va_P D cls13 (wsOf base cA M) H) (hv : PIv base M) (hS : va_S (Ab base) s.heap H locs) (hk : kd M a = 20) (hi : ¬ (i < 0 ∨ ln M a ≤ i.toNatClampNeg)) (hd : decode cc pc = .ok (.iastore, 1))
    (kk : ∀ H1 locs1, va_P D cls13 (wsOf base cA (wI M a i.toNatClampNeg v)) H1 → va_S (Ab base) s.heap H1 locs1 → W p l e R s m args below meth c H1 locs1 cells slots Q (F0 m (pc + 1) lsA rest)) : W p l e R s m args below meth c H locs cells slots Q (F0 m pc lsA (.int v :: .int i :: .ref a :: rest)) := by
  obtain ⟨g1, g2⟩ := hv.2.1 a (by omega)
  have he := ws_get (cA := cA) g1 g2
  rw [cell_arr (by omega), arrc_20 hk, hk] at he
  have hset := ws_set (cA := cA) (M' := wI M a i.toNatClampNeg v) g1 g2 rfl (fun b h => cell_uI h)
  have hk' : kd (wI M a i.toNatClampNeg v) a = 20 := hk
  rw [cell_arr (by omega), arrc_20 hk', hk', show aI (wI M a i.toNatClampNeg v) a = up1 (aI M a) i.toNatClampNeg v from if_pos rfl] at hset
  exact va_iast hx hb hK hP (ws_D base cA M) hS (a - base) 0 he rfl hi hd (fun H1 locs1 hP1 _ hS1 => kk H1 locs1 (by rw [hset]; exact hP1) hS1)
theorem w_last {a : Nat} {i : Int32} {v : Int64} (hx : p.tables.exec = Jvm.exec) (hb : c.code = cc) (hK : va_K D cls13 (tys5 cA) s) (hP : va_P D cls13 (wsOf base cA M) H) (hv : PIv base M) (hS : va_S (Ab base) s.heap H locs) (hk : kd M a = 21) (hi : ¬ (i < 0 ∨ ln M a ≤ i.toNatClampNeg)) (hd : decode cc pc = .ok (.lastore, 1))
    (kk : ∀ H1 locs1, va_P D cls13 (wsOf base cA (wJ M a i.toNatClampNeg v)) H1 → va_S (Ab base) s.heap H1 locs1 → W p l e R s m args below meth c H1 locs1 cells slots Q (F0 m (pc + 1) lsA rest)) : W p l e R s m args below meth c H locs cells slots Q (F0 m pc lsA (.long v :: .int i :: .ref a :: rest)) := by
  obtain ⟨g1, g2⟩ := hv.2.1 a (by omega)
  have he := ws_get (cA := cA) g1 g2
  rw [cell_arr (by omega), arrc_21 hk, hk] at he
  have hset := ws_set (cA := cA) (M' := wJ M a i.toNatClampNeg v) g1 g2 rfl (fun b h => cell_uJ h)
  have hk' : kd (wJ M a i.toNatClampNeg v) a = 21 := hk
  rw [cell_arr (by omega), arrc_21 hk', hk', show aJ (wJ M a i.toNatClampNeg v) a = up1 (aJ M a) i.toNatClampNeg v from if_pos rfl] at hset
  exact va_last hx hb hK hP (ws_D base cA M) hS (a - base) 1 he rfl hi hd (fun H1 locs1 hP1 _ hS1 => kk H1 locs1 (by rw [hset]; exact hP1) hS1)
theorem nar01 {v : Int32} (h : v = 0 ∨ v = 1) : vp_nar .boolean v = v := by rcases h with rfl | rfl <;> decide
theorem w_zast {a : Nat} {i v : Int32} (hx : p.tables.exec = Jvm.exec) (hb : c.code = cc) (hK : va_K D cls13 (tys5 cA) s) (hP : va_P D cls13 (wsOf base cA M) H) (hv : PIv base M) (hS : va_S (Ab base) s.heap H locs) (hk : kd M a = 22) (hi : ¬ (i < 0 ∨ ln M a ≤ i.toNatClampNeg)) (hz : v = 0 ∨ v = 1) (hd : decode cc pc = .ok (.bastore, 1))
    (kk : ∀ H1 locs1, va_P D cls13 (wsOf base cA (wI M a i.toNatClampNeg v)) H1 → va_S (Ab base) s.heap H1 locs1 → W p l e R s m args below meth c H1 locs1 cells slots Q (F0 m (pc + 1) lsA rest)) : W p l e R s m args below meth c H locs cells slots Q (F0 m pc lsA (.int v :: .int i :: .ref a :: rest)) := by
  obtain ⟨g1, g2⟩ := hv.2.1 a (by omega)
  have he := ws_get (cA := cA) g1 g2
  rw [cell_arr (by omega), arrc_22 hk, hk] at he
  have hset := ws_set (cA := cA) (M' := wI M a i.toNatClampNeg v) g1 g2 rfl (fun b h => cell_uI h)
  have hk' : kd (wI M a i.toNatClampNeg v) a = 22 := hk
  rw [cell_arr (by omega), arrc_22 hk', hk', show aI (wI M a i.toNatClampNeg v) a = up1 (aI M a) i.toNatClampNeg v from if_pos rfl] at hset
  refine va_zast hx hb hK hP (ws_D base cA M) hS (a - base) 2 he rfl hi hd (fun H1 locs1 hP1 _ hS1 => kk H1 locs1 ?_ hS1)
  rw [nar01 hz] at hP1
  rw [hset]
  exact hP1
theorem w_aast {a : Nat} {i : Int32} {v : Option Nat} (hx : p.tables.exec = Jvm.exec) (hb : c.code = cc) (hK : va_K D cls13 (tys5 cA) s) (hP : va_P D cls13 (wsOf base cA M) H) (hv : PIv base M) (hNW : NW s) (hS : va_S (Ab base) s.heap H locs) (hk : kd M a = 23 ∨ kd M a = 24) (hi : ¬ (i < 0 ∨ ln M a ≤ i.toNatClampNeg)) (ho : okSt M a v) (hd : decode cc pc = .ok (.aastore, 1))
    (kk : ∀ H1 locs1, va_P D cls13 (wsOf base cA (wR M a i.toNatClampNeg v)) H1 → va_S (Ab base) s.heap H1 locs1 → W p l e R s m args below meth c H1 locs1 cells slots Q (F0 m (pc + 1) lsA rest)) : W p l e R s m args below meth c H locs cells slots Q (F0 m pc lsA (va_rf v :: .int i :: .ref a :: rest)) := by
  obtain ⟨g1, g2⟩ := hv.2.1 a (by omega)
  have he := ws_get (cA := cA) g1 g2
  have hset := ws_set (cA := cA) (M' := wR M a i.toNatClampNeg v) g1 g2 rfl (fun b h => cell_uR h)
  rcases hk with hk | hk
  · have hk' : kd (wR M a i.toNatClampNeg v) a = 23 := hk
    rw [cell_arr (by omega), arrc_23 hk, hk] at he
    rw [cell_arr (by omega), arrc_23 hk', hk', show aR (wR M a i.toNatClampNeg v) a = up1 (aR M a) i.toNatClampNeg v from if_pos rfl] at hset
    cases v with
    | none => exact va_astqN hx hb hK hP (ws_D base cA M) hS (a - base) 3 he rfl hi hd (fun H1 locs1 hP1 _ hS1 => kk H1 locs1 (by rw [hset]; exact hP1) hS1)
    | some b =>
      rcases ho with ho | ho
      · obtain ⟨b1, b2⟩ := hv.2.1 b (by omega)
        have hb2 := ws_get (cA := cA) b1 b2
        rw [cell_obj rfl (by omega)] at hb2
        exact va_astqO hx hb hK hP (ws_D base cA M) hS (a - base) 3 (b - base) (kd M b) he rfl (hNW.2.2.2.1 _ ho.2.1 ho.2.2) hb2 (cls_at _ (by omega)) hi hd (fun H1 locs1 hP1 _ hS1 => kk H1 locs1 (by rw [hset]; exact hP1) hS1)
      · omega
  · have hk' : kd (wR M a i.toNatClampNeg v) a = 24 := hk
    rw [cell_arr (by omega), arrc_24 hk, hk] at he
    rw [cell_arr (by omega), arrc_24 hk', hk', show aR (wR M a i.toNatClampNeg v) a = up1 (aR M a) i.toNatClampNeg v from if_pos rfl] at hset
    cases v with
    | none => exact va_astqN hx hb hK hP (ws_D base cA M) hS (a - base) 4 he rfl hi hd (fun H1 locs1 hP1 _ hS1 => kk H1 locs1 (by rw [hset]; exact hP1) hS1)
    | some b =>
      rcases ho with ho | ho
      · omega
      · obtain ⟨b1, b2⟩ := hv.2.1 b (by omega)
        have hb2 := ws_get (cA := cA) b1 b2
        rw [cell_obj ho.2 (by omega)] at hb2
        exact va_astq hx hb hK hP (ws_D base cA M) hS (a - base) 4 (b - base) 5 he rfl hb2 (cls_at 5 (by omega)) hi hd (fun H1 locs1 hP1 _ hS1 => kk H1 locs1 (by rw [hset]; exact hP1) hS1)
end ARS
