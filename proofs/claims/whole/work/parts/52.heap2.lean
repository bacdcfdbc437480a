/-! fields over the machine -/
theorem cell_obj {cA : Nat → ClassId} {M : Mem} {a c : Nat} (h : kd M a = c) (hc : c < 13) : cellOf cA M a = .inr (c, flds M c a) := by
  subst h
  exact if_pos hc
theorem cell_eq {cA : Nat → ClassId} {M M' : Mem} {b : Nat} (hk : kd M' b = kd M b) (hf : ∀ c j, fv M' c b j = fv M c b j) (hr : kd M b ≥ 13 → arrc M' b = arrc M b) : cellOf cA M' b = cellOf cA M b := by
  unfold cellOf
  rw [hk]
  by_cases h : kd M b < 13
  · rw [if_pos h, if_pos h]
    unfold flds
    rw [show fv M' (kd M b) b = fv M (kd M b) b from funext (hf _)]
  · rw [if_neg h, if_neg h, hr (by omega)]
theorem cell_sI {cA : Nat → ClassId} {M : Mem} {k a b : Nat} {v : Int32} (h : b ≠ a) : cellOf cA (sI M k a v) b = cellOf cA M b := by
  refine cell_eq rfl (fun c j => ?_) (fun _ => rfl)
  unfold fv
  split
  · rfl
  · rfl
  · exact congrArg Value.int (if_neg (fun q => h q.2))
theorem cell_sJ {cA : Nat → ClassId} {M : Mem} {k a b : Nat} {v : Int64} (h : b ≠ a) : cellOf cA (sJ M k a v) b = cellOf cA M b := by
  refine cell_eq rfl (fun c j => ?_) (fun _ => rfl)
  unfold fv
  split
  · exact congrArg Value.long (if_neg (fun q => h q.2))
  · rfl
  · rfl
theorem cell_sF {cA : Nat → ClassId} {M : Mem} {k a b : Nat} {v : Option Nat} (h : b ≠ a) : cellOf cA (sF M k a v) b = cellOf cA M b := by
  refine cell_eq rfl (fun c j => ?_) (fun _ => rfl)
  unfold fv
  split
  · rfl
  · exact congrArg va_rf (if_neg (fun q => h q.2))
  · rfl
theorem flds_set {M M' : Mem} {c a k : Nat} {w : Value} (h : ∀ j, fv M' c a j = if j = k then w else fv M c a j) : flds M' c a = (flds M c a).set k w := by
  apply List.ext_getElem?
  intro i
  rw [List.getElem?_set]
  by_cases hi : i < nfl c
  · rw [flds_get hi, h]
    by_cases he : k = i
    · subst he
      rw [if_pos rfl, if_pos rfl, if_pos (by rw [flds_len]; exact hi)]
    · rw [if_neg he, if_neg (fun q => he q.symm), flds_get hi]
  · have l1 : (flds M' c a)[i]? = none := by rw [List.getElem?_eq_none_iff, flds_len]; omega
    have l2 : (flds M c a)[i]? = none := by rw [List.getElem?_eq_none_iff, flds_len]; omega
    rw [l1, l2]
    split
    · rename_i he
      rw [if_neg (by rw [flds_len]; omega)]
    · rfl
theorem flds_sI {M : Mem} {c a k : Nat} {v : Int32} (hs : fS c k = 0 ∨ fS c k = 3) : flds (sI M (64 * c + k) a v) c a = (flds M c a).set k (.int v) := by
  refine flds_set fun j => ?_
  unfold fv
  by_cases e : j = k
  · subst e
    rw [if_pos rfl]
    rcases hs with hs | hs <;> rw [hs] <;> exact congrArg Value.int (if_pos ⟨rfl, rfl⟩)
  · rw [if_neg e]
    split
    · rfl
    · rfl
    · exact congrArg Value.int (if_neg (fun q => e (by have := q.1; omega)))
theorem flds_sJ {M : Mem} {c a k : Nat} {v : Int64} (hs : fS c k = 1) : flds (sJ M (64 * c + k) a v) c a = (flds M c a).set k (.long v) := by
  refine flds_set fun j => ?_
  unfold fv
  by_cases e : j = k
  · subst e
    rw [if_pos rfl, hs]
    exact congrArg Value.long (if_pos ⟨rfl, rfl⟩)
  · rw [if_neg e]
    split
    · exact congrArg Value.long (if_neg (fun q => e (by have := q.1; omega)))
    · rfl
    · rfl
theorem flds_sF {M : Mem} {c a k : Nat} {v : Option Nat} (hs : fS c k = 2) : flds (sF M (64 * c + k) a v) c a = (flds M c a).set k (va_rf v) := by
  refine flds_set fun j => ?_
  unfold fv
  by_cases e : j = k
  · subst e
    rw [if_pos rfl, hs]
    exact congrArg va_rf (if_pos ⟨rfl, rfl⟩)
  · rw [if_neg e]
    split
    · rfl
    · exact congrArg va_rf (if_neg (fun q => e (by have := q.1; omega)))
    · rfl
abbrev tys5 (cA : Nat → ClassId) : List (ClassId × FieldType) := [(cA 20, .int), (cA 21, .long), (cA 22, .boolean), (cA 23, .object "java/lang/Object"), (cA 24, .object "FamilyFields$KeptPart")]
section HEAP
variable {p : Program} {l : Launch} {e : Env} {R : Room} {s : State} {m : MethodId} {args : Array Value} {below : List Frame} {meth : Method} {c : Code} {H : Heap} {locs : List Loc} {cells slots : Nat} {Q : State → Prop} {D : va_G} {cA : Nat → ClassId} {base y pc : Nat} {M : Mem} {lsA : Array Slot} {rest : List Value}
theorem w_get {a ci k i : Nat} (hx : p.tables.exec = Jvm.exec) (hb : c.code = mB y) (hown : s.vm.findClass (cnm (mC y)) = some m.cls) (hts : ∀ w ∈ lw_tbl, reqK w = true → w.before args s = true) (hK : va_K D cls13 (tys5 cA) s) (hP : va_P D cls13 (wsOf base cA M) H) (hv : PIv base M)
    (hk : kd M a = ci) {r : Nat × Nat × Nat × Nat × Nat} (hr : r ∈ flk) (h1 : r.1 = mC y) (h2 : r.2.1 = i) (h3 : r.2.2.1 = ci) (h4 : r.2.2.2.1 = k) (hd : decode (mB y) pc = .ok (.getfield i, 3))
    (kk : W p l e R s m args below meth c H locs cells slots Q (F0 m (pc + 3) lsA (fv M ci a k :: rest))) : W p l e R s m args below meth c H locs cells slots Q (F0 m pc lsA (.ref a :: rest)) := by
  obtain ⟨hw, hc, hn⟩ := flk_in hr
  have hw := hts _ hw rfl
  rw [h1, h2, h3, h4] at hw
  rw [h3] at hc
  rw [h3, h4] at hn
  obtain ⟨g1, g2⟩ := hv.2.1 a (by omega)
  have he := ws_get (cA := cA) g1 g2
  rw [cell_obj hk hc] at he
  exact va_get hx hb (Ts := LG) (fun w h => hts w (LG_of h).1 (LG_of h).2) (cW_all ci hc) hown hK hP (a - base) he (cls_at ci hc) k hn hw (ref_same hts _ ci k) (flds_get hn) hd kk
theorem w_put {a ci k i : Nat} {v : Value} {M' : Mem} (hx : p.tables.exec = Jvm.exec) (hb : c.code = mB y) (hown : s.vm.findClass (cnm (mC y)) = some m.cls) (hts : ∀ w ∈ lw_tbl, reqK w = true → w.before args s = true) (hK : va_K D cls13 (tys5 cA) s) (hP : va_P D cls13 (wsOf base cA M) H) (hv : PIv base M) (hS : va_S (Ab base) s.heap H locs)
    (hk : kd M a = ci) {r : Nat × Nat × Nat × Nat × Nat} (hr : r ∈ flk) (h1 : r.1 = mC y) (h2 : r.2.1 = i) (h3 : r.2.2.1 = ci) (h4 : r.2.2.2.1 = k) (hd : decode (mB y) pc = .ok (.putfield i, 3))
    (hf : (fT ci k).2.2.2 = false ∨ ((fT ci k).2.2.2 = true ∧ meth.name = "<init>" ∧ (fT ci k).1 = cnm (mC y))) (hnr : ∀ ty, tyS ty = fS ci k → narrow ty v = v ∧ fits ty v = true)
    (ht : mT M' = mT M) (hkd : kd M' a = kd M a) (hcl : ∀ b, b ≠ a → cellOf cA M' b = cellOf cA M b) (hfl : flds M' ci a = (flds M ci a).set k v)
    (kk : ∀ H1 locs1, va_P D cls13 (wsOf base cA M') H1 → va_S (Ab base) s.heap H1 locs1 → W p l e R s m args below meth c H1 locs1 cells slots Q (F0 m (pc + 3) lsA rest)) : W p l e R s m args below meth c H locs cells slots Q (F0 m pc lsA (v :: .ref a :: rest)) := by
  obtain ⟨hw, hc, hn⟩ := flk_in hr
  have hw := hts _ hw rfl
  rw [h1, h2, h3, h4] at hw
  rw [h3] at hc
  rw [h3, h4] at hn
  obtain ⟨g1, g2⟩ := hv.2.1 a (by omega)
  have he := ws_get (cA := cA) g1 g2
  rw [cell_obj hk hc] at he
  have hset := ws_set (cA := cA) g1 g2 ht hcl
  rw [cell_obj (hkd.trans hk) hc, hfl] at hset
  obtain ⟨n1, n2⟩ := hnr (fY ci k) (fS_all ci hc k hn)
  have hlen : k < (flds M ci a).length := by rw [flds_len]; exact hn
  rcases hf with hf | ⟨hf, hi, hdec⟩
  · exact va_put hx hb (Ts := LG) (fun w h => hts w (LG_of h).1 (LG_of h).2) (cW_all ci hc) (fY ci) (cY_all ci hc) (cN_all ci hc) hown hK hP (ws_D base cA M) hS (a - base) he (cls_at ci hc) k hn hw (ref_same hts _ ci k) hf (cY_all ci hc k hn) n1 n2 hlen hd (fun H1 locs1 hP1 _ hS1 => kk H1 locs1 (by rw [hset]; exact hP1) hS1)
  · exact va_putF hx hb (Ts := LG) (fun w h => hts w (LG_of h).1 (LG_of h).2) (cW_all ci hc) (fY ci) (cY_all ci hc) (cN_all ci hc) hown hK hP (ws_D base cA M) hS (a - base) he (cls_at ci hc) k hn hw (ref_same hts _ ci k) hf hi hdec (cY_all ci hc k hn) n1 n2 hlen hd (fun H1 locs1 hP1 _ hS1 => kk H1 locs1 (by rw [hset]; exact hP1) hS1)
end HEAP
theorem nr_int (v : Int32) : ∀ ty, tyS ty = 0 → narrow ty (.int v) = .int v ∧ fits ty (.int v) = true := by
  intro ty h
  cases ty <;> first | (cases h; done) | exact ⟨rfl, rfl⟩
theorem nr_long (v : Int64) : ∀ ty, tyS ty = 1 → narrow ty (.long v) = .long v ∧ fits ty (.long v) = true := by
  intro ty h
  cases ty <;> first | (cases h; done) | exact ⟨rfl, rfl⟩
theorem nr_ref (v : Option Nat) : ∀ ty, tyS ty = 2 → narrow ty (va_rf v) = va_rf v ∧ fits ty (va_rf v) = true := by
  intro ty h
  cases ty <;> first | (cases h; done) | (cases v <;> exact ⟨rfl, rfl⟩)
theorem nr_bool (v : Int32) (hv : v = 0 ∨ v = 1) : ∀ ty, tyS ty = 3 → narrow ty (.int v) = .int v ∧ fits ty (.int v) = true := by
  intro ty h
  cases ty <;> first | (cases h; done) | (rcases hv with rfl | rfl <;> exact ⟨by decide, by decide⟩)
