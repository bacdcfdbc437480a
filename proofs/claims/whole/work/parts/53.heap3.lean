/-! arrays over the machine -/
theorem cell_arr {cA : Nat → ClassId} {M : Mem} {a : Nat} (h : 13 ≤ kd M a) : cellOf cA M a = .inl (cA (kd M a), arrc M a) := if_neg (by omega)
theorem arrc_20 {M : Mem} {a : Nat} (h : kd M a = 20) : arrc M a = (ln M a, .inl (aI M a)) := by unfold arrc; rw [h]; rfl
theorem arrc_21 {M : Mem} {a : Nat} (h : kd M a = 21) : arrc M a = (ln M a, .inr (.inl (aJ M a))) := by unfold arrc; rw [h]; rfl
theorem arrc_22 {M : Mem} {a : Nat} (h : kd M a = 22) : arrc M a = (ln M a, .inl (aI M a)) := by unfold arrc; rw [h]; rfl
theorem arrc_23 {M : Mem} {a : Nat} (h : kd M a = 23) : arrc M a = (ln M a, .inr (.inr (.inr (.inr (aR M a))))) := by unfold arrc; rw [h]; rfl
theorem arrc_24 {M : Mem} {a : Nat} (h : kd M a = 24) : arrc M a = (ln M a, .inr (.inr (.inr (.inr (aR M a))))) := by unfold arrc; rw [h]; rfl
theorem arrc_1 (M : Mem) (a : Nat) : (arrc M a).1 = ln M a := by unfold arrc; split <;> rfl
theorem cell_uI {cA : Nat → ClassId} {M : Mem} {a b : Nat} {f : Nat → Int32} (h : b ≠ a) : cellOf cA (uI M a f) b = cellOf cA M b := by
  refine cell_eq rfl (fun c j => rfl) (fun _ => ?_)
  have e : aI (uI M a f) b = aI M b := if_neg h
  show (match kd M b with | 21 => (ln M b, .inr (.inl (aJ M b))) | 23 => _ | 24 => _ | _ => (ln M b, .inl (aI (uI M a f) b)) : vp_A) = _
  rw [e]
  rfl
theorem cell_uJ {cA : Nat → ClassId} {M : Mem} {a b : Nat} {f : Nat → Int64} (h : b ≠ a) : cellOf cA (uJ M a f) b = cellOf cA M b := by
  refine cell_eq rfl (fun c j => rfl) (fun _ => ?_)
  have e : aJ (uJ M a f) b = aJ M b := if_neg h
  show (match kd M b with | 21 => (ln M b, .inr (.inl (aJ (uJ M a f) b))) | 23 => _ | 24 => _ | _ => (ln M b, .inl (aI M b)) : vp_A) = _
  rw [e]
  rfl
theorem cell_uR {cA : Nat → ClassId} {M : Mem} {a b : Nat} {f : Nat → Option Nat} (h : b ≠ a) : cellOf cA (uR M a f) b = cellOf cA M b := by
  refine cell_eq rfl (fun c j => rfl) (fun _ => ?_)
  have e : aR (uR M a f) b = aR M b := if_neg h
  show (match kd M b with | 21 => (ln M b, .inr (.inl (aJ M b))) | 23 => (ln M b, .inr (.inr (.inr (.inr (aR (uR M a f) b))))) | 24 => (ln M b, .inr (.inr (.inr (.inr (aR (uR M a f) b))))) | _ => (ln M b, .inl (aI M b)) : vp_A) = _
  rw [e]
  rfl
theorem W_size {p : Program} {l : Launch} {e : Env} {R : Room} {s : State} {m : MethodId} {args : Array Value} {below : List Frame} {meth : Method} {c : Code} {H : Heap} {locs : List Loc} {cells slots : Nat} {Q : State → Prop} {g : JFrame} (k : H.size ≤ s.heap.size + cells → W p l e R s m args below meth c H locs cells slots Q g) : W p l e R s m args below meth c H locs cells slots Q g := by
  intro T hT X
  have h := X.heapSize
  rw [hT] at h
  exact k h T hT X
theorem fresh_q {D : va_G} {cA : Nat → ClassId} {base q : Nat} {M : Mem} {E : va_E} {H1 : Heap} (hb : base ≤ mT M) (hP : va_P D cls13 (wsOf base cA M ++ [(q, E)]) H1) (hD : va_D (Ab base) (wsOf base cA M ++ [(q, E)])) (hz : H1.size ≤ mT M + 1) : q = mT M := by
  have hlen : (wsOf base cA M).length = mT M - base := by simp [wsN]
  have hq : (wsOf base cA M ++ [(q, E)])[mT M - base]? = some (q, E) := by
    rw [List.getElem?_append_right (by omega), hlen, Nat.sub_self]
    rfl
  have h1 : q < H1.size := (hP _ _ hq).lt
  have h2 : base ≤ q := hD.2 _ _ hq
  by_cases h : q < mT M
  · exfalso
    have h3 : (wsOf base cA M ++ [(q, E)])[q - base]? = some (q, cellOf cA M q) := by
      rw [List.getElem?_append_left (by omega)]
      exact ws_get h2 h
    have := hD.1 _ _ _ _ h3 hq rfl
    omega
  · omega
theorem size_ge {D : va_G} {cA : Nat → ClassId} {base : Nat} {M : Mem} {H : Heap} (hP : va_P D cls13 (wsOf base cA M) H) (hb : base ≤ H.size) : mT M ≤ H.size := by
  by_cases h : mT M ≤ base
  · omega
  · have h1 := ws_get (base := base) (cA := cA) (M := M) (a := mT M - 1) (by omega) (by omega)
    have h2 : mT M - 1 < H.size := (hP _ _ h1).lt
    omega
section ARR
variable {p : Program} {l : Launch} {e : Env} {R : Room} {s : State} {m : MethodId} {args : Array Value} {below : List Frame} {meth : Method} {c : Code} {H : Heap} {locs : List Loc} {cells slots : Nat} {Q : State → Prop} {D : va_G} {cA : Nat → ClassId} {base y pc : Nat} {M : Mem} {lsA : Array Slot} {rest : List Value} {cc : ByteArray}
theorem w_iald {a : Nat} {i : Int32} (hx : p.tables.exec = Jvm.exec) (hb : c.code = cc) (hK : va_K D cls13 (tys5 cA) s) (hP : va_P D cls13 (wsOf base cA M) H) (hv : PIv base M) (hSF : SF base M s s.heap) (hS : va_S (Ab base) s.heap H locs) (hk : kd M a = 20 ∨ kd M a = 30) (hi : ¬ (i < 0 ∨ ln M a ≤ i.toNatClampNeg)) (hd : decode cc pc = .ok (.iaload, 1))
    (kk : W p l e R s m args below meth c H locs cells slots Q (F0 m (pc + 1) lsA (.int (aI M a i.toNatClampNeg) :: rest))) : W p l e R s m args below meth c H locs cells slots Q (F0 m pc lsA (.int i :: .ref a :: rest)) := by
  rcases hk with hk | hk
  · obtain ⟨g1, g2⟩ := hv.2.1 a (by omega)
    have he := ws_get (cA := cA) g1 g2
    rw [cell_arr (by omega), arrc_20 hk, hk] at he
    exact va_iald hx hb hK hP (a - base) 0 he rfl hi hd kk
  · exact va_ti hx hb (hSF.1 a hk) hS hi rfl hd kk
theorem w_lald {a : Nat} {i : Int32} (hx : p.tables.exec = Jvm.exec) (hb : c.code = cc) (hK : va_K D cls13 (tys5 cA) s) (hP : va_P D cls13 (wsOf base cA M) H) (hv : PIv base M) (hk : kd M a = 21) (hi : ¬ (i < 0 ∨ ln M a ≤ i.toNatClampNeg)) (hd : decode cc pc = .ok (.laload, 1))
    (kk : W p l e R s m args below meth c H locs cells slots Q (F0 m (pc + 1) lsA (.long (aJ M a i.toNatClampNeg) :: rest))) : W p l e R s m args below meth c H locs cells slots Q (F0 m pc lsA (.int i :: .ref a :: rest)) := by
  obtain ⟨g1, g2⟩ := hv.2.1 a (by omega)
  have he := ws_get (cA := cA) g1 g2
  rw [cell_arr (by omega), arrc_21 hk, hk] at he
  exact va_lald hx hb hK hP (a - base) 1 he rfl hi hd kk
theorem w_zald {a : Nat} {i : Int32} (hx : p.tables.exec = Jvm.exec) (hb : c.code = cc) (hK : va_K D cls13 (tys5 cA) s) (hP : va_P D cls13 (wsOf base cA M) H) (hv : PIv base M) (hk : kd M a = 22) (hi : ¬ (i < 0 ∨ ln M a ≤ i.toNatClampNeg)) (hd : decode cc pc = .ok (.baload, 1))
    (kk : W p l e R s m args below meth c H locs cells slots Q (F0 m (pc + 1) lsA (.int (aI M a i.toNatClampNeg) :: rest))) : W p l e R s m args below meth c H locs cells slots Q (F0 m pc lsA (.int i :: .ref a :: rest)) := by
  obtain ⟨g1, g2⟩ := hv.2.1 a (by omega)
  have he := ws_get (cA := cA) g1 g2
  rw [cell_arr (by omega), arrc_22 hk, hk] at he
  exact va_zald hx hb hK hP (a - base) 2 he rfl hi hd kk
theorem w_aald {a : Nat} {i : Int32} (hx : p.tables.exec = Jvm.exec) (hb : c.code = cc) (hK : va_K D cls13 (tys5 cA) s) (hP : va_P D cls13 (wsOf base cA M) H) (hv : PIv base M) (hk : kd M a = 23 ∨ kd M a = 24) (hi : ¬ (i < 0 ∨ ln M a ≤ i.toNatClampNeg)) (hd : decode cc pc = .ok (.aaload, 1))
    (kk : W p l e R s m args below meth c H locs cells slots Q (F0 m (pc + 1) lsA (va_rf (aR M a i.toNatClampNeg) :: rest))) : W p l e R s m args below meth c H locs cells slots Q (F0 m pc lsA (.int i :: .ref a :: rest)) := by
  obtain ⟨g1, g2⟩ := hv.2.1 a (by omega)
  have he := ws_get (cA := cA) g1 g2
  rcases hk with hk | hk
  · rw [cell_arr (by omega), arrc_23 hk, hk] at he
    exact va_aldq hx hb hK hP (a - base) 3 he rfl hi hd kk
  · rw [cell_arr (by omega), arrc_24 hk, hk] at he
    exact va_aldq hx hb hK hP (a - base) 4 he rfl hi hd kk
theorem w_alen {a : Nat} (hx : p.tables.exec = Jvm.exec) (hb : c.code = cc) (hK : va_K D cls13 (tys5 cA) s) (hP : va_P D cls13 (wsOf base cA M) H) (hv : PIv base M) (hSF : SF base M s s.heap) (hS : va_S (Ab base) s.heap H locs) (hk : 20 ≤ kd M a ∧ kd M a < 40) (hd : decode cc pc = .ok (.arraylength, 1))
    (kk : W p l e R s m args below meth c H locs cells slots Q (F0 m (pc + 1) lsA (.int (nI (ln M a)) :: rest))) : W p l e R s m args below meth c H locs cells slots Q (F0 m pc lsA (.ref a :: rest)) := by
  by_cases h25 : kd M a ≤ 24
  · obtain ⟨g1, g2⟩ := hv.2.1 a h25
    have he := ws_get (cA := cA) g1 g2
    rw [cell_arr (by omega)] at he
    have hv : Int32.ofNat (arrc M a).1 = nI (ln M a) := by rw [arrc_1]; rfl
    rcases (show kd M a = 20 ∨ kd M a = 21 ∨ kd M a = 22 ∨ kd M a = 23 ∨ kd M a = 24 by omega) with h | h | h | h | h <;> rw [h] at he
    · exact va_alen hx hb hK hP (a - base) 0 he rfl hv hd kk
    · exact va_alen hx hb hK hP (a - base) 1 he rfl hv hd kk
    · exact va_alen hx hb hK hP (a - base) 2 he rfl hv hd kk
    · exact va_alen hx hb hK hP (a - base) 3 he rfl hv hd kk
    · exact va_alen hx hb hK hP (a - base) 4 he rfl hv hd kk
  · rcases hSF.2.2.2.2.2 a (by omega) hk.2 with h | h | h
    · exact va_tlen hx hb (hSF.1 a h) hS rfl hd kk
    · exact va_tlen hx hb (hSF.2.1 a h) hS rfl hd kk
    · exact va_tlen hx hb (hSF.2.2.1 a h) hS rfl hd kk
end ARR
