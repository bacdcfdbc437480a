/-! copies, casts, the machine's own methods -/
theorem sp_words : (Cond.native arraycopyName ∈ lw_tbl ∧ Cond.static arraycopyName ∈ lw_tbl ∧ Cond.initialized "java/lang/System" ∈ lw_tbl) ∧ (Cond.selects "[Ljava/lang/Object;" ⟨"java/lang/Object", "getClass", "()Ljava/lang/Class;"⟩ ⟨"java/lang/Object", "getClass", "()Ljava/lang/Class;"⟩ ∈ lw_tbl ∧ Cond.instanceMethod ⟨"java/lang/Object", "getClass", "()Ljava/lang/Class;"⟩ ∈ lw_tbl ∧ Cond.native ⟨"java/lang/Object", "getClass", "()Ljava/lang/Class;"⟩ ∈ lw_tbl) ∧ (Cond.sameMethod "[J" "java/lang/Object" "clone" "()Ljava/lang/Object;" ∈ lw_tbl ∧ Cond.native ⟨"java/lang/Object", "clone", "()Ljava/lang/Object;"⟩ ∈ lw_tbl ∧ Cond.instanceMethod ⟨"java/lang/Object", "clone", "()Ljava/lang/Object;"⟩ ∈ lw_tbl ∧ Cond.selects "[J" ⟨"[J", "clone", "()Ljava/lang/Object;"⟩ ⟨"java/lang/Object", "clone", "()Ljava/lang/Object;"⟩ ∈ lw_tbl) ∧ (Cond.native ⟨"java/lang/Float", "intBitsToFloat", "(I)F"⟩ ∈ lw_tbl ∧ Cond.static ⟨"java/lang/Float", "intBitsToFloat", "(I)F"⟩ ∈ lw_tbl ∧ Cond.initialized "java/lang/Float" ∈ lw_tbl) ∧ (Cond.native ⟨"java/lang/Double", "longBitsToDouble", "(J)D"⟩ ∈ lw_tbl ∧ Cond.static ⟨"java/lang/Double", "longBitsToDouble", "(J)D"⟩ ∈ lw_tbl ∧ Cond.initialized "java/lang/Double" ∈ lw_tbl) ∧ (Cond.native ⟨"java/lang/Double", "doubleToRawLongBits", "(D)J"⟩ ∈ lw_tbl ∧ Cond.static ⟨"java/lang/Double", "doubleToRawLongBits", "(D)J"⟩ ∈ lw_tbl) ∧ (Cond.native ⟨"java/lang/Float", "floatToRawIntBits", "(F)I"⟩ ∈ lw_tbl ∧ Cond.static ⟨"java/lang/Float", "floatToRawIntBits", "(F)I"⟩ ∈ lw_tbl) ∧ (Cond.instanceMethod Lib.objectInit ∈ lw_tbl) := by decide +kernel
theorem obj_code : Cond.code Lib.objectInit ⟨#[0xb1]⟩ 1 none ∈ lw_tbl := in_t1 (List.mem_of_getElem? (i := 35) (by decide +kernel))
theorem plk_in {r : Nat × Nat × Nat × Nat} (h : r ∈ plk) : Cond.methodLink (cnm r.1) r.2.1 (spN r.2.2.1) ∈ lw_tbl := in_of (of_decide_eq_true (List.all_eq_true.mp plk_ok r h))
section SPC
variable {p : Program} {l : Launch} {e : Env} {R : Room} {s : State} {m : MethodId} {args : Array Value} {below : List Frame} {meth : Method} {c : Code} {H : Heap} {locs : List Loc} {cells slots : Nat} {Q : State → Prop} {D : va_G} {cA : Nat → ClassId} {base y pc : Nat} {M : Mem} {lsA : Array Slot} {rest : List Value}
theorem w_cpJ {a b i : Nat} {sp dp n : Int32} (hx : p.tables.exec = Jvm.exec) (hb : c.code = mB y) (hml : c.maxLocals = lsA.size) (hown : s.vm.findClass (cnm (mC y)) = some m.cls) (hts : ∀ w ∈ lw_tbl, reqK w = true → w.before args s = true) (hK : va_K D cls13 (tys5 cA) s) (hP : va_P D cls13 (wsOf base cA M) H) (hv : PIv base M) (hS : va_S (Ab base) s.heap H locs)
    (hl : (Cond.methodLink (cnm (mC y)) i arraycopyName).before args s = true) (ka : kd M a = 21) (kb : kd M b = 21) (h1 : ¬ sp < 0) (h2 : ¬ dp < 0) (h3 : ¬ n < 0) (h4 : sp.toNatClampNeg + n.toNatClampNeg ≤ ln M a) (h5 : dp.toNatClampNeg + n.toNatClampNeg ≤ ln M b)
    (hfr : 1 ≤ R.frames) (hlo : (rest.map fun v => v.category).sum + 60 ≤ R.locals + 8) (hlo2 : (rest.map fun v => v.category).sum ≤ 8) (hd : decode (mB y) pc = .ok (.invokestatic i, 3))
    (kk : ∀ H1 locs1, va_P D cls13 (wsOf base cA (uJ M b (va_cpy (aJ M a) (aJ M b) sp.toNatClampNeg dp.toNatClampNeg n.toNatClampNeg))) H1 → va_S (Ab base) s.heap H1 locs1 → W p l e R s m args below meth c H1 locs1 cells slots Q (F0 m (pc + 3) lsA rest)) : W p l e R s m args below meth c H locs cells slots Q (F0 m pc lsA (.int n :: .int dp :: .ref b :: .int sp :: .ref a :: rest)) := by
  obtain ⟨a1, a2⟩ := hv.2.1 a (by omega)
  obtain ⟨b1, b2⟩ := hv.2.1 b (by omega)
  have ha := ws_get (cA := cA) a1 a2
  have hbb := ws_get (cA := cA) b1 b2
  rw [cell_arr (by omega), arrc_21 ka, ka] at ha
  rw [cell_arr (by omega), arrc_21 kb, kb] at hbb
  have hset := ws_set (cA := cA) (M' := uJ M b (va_cpy (aJ M a) (aJ M b) sp.toNatClampNeg dp.toNatClampNeg n.toNatClampNeg)) b1 b2 rfl (fun q h => cell_uJ h)
  have kb' : kd (uJ M b (va_cpy (aJ M a) (aJ M b) sp.toNatClampNeg dp.toNatClampNeg n.toNatClampNeg)) b = 21 := kb
  rw [cell_arr (by omega), arrc_21 kb', kb', show aJ (uJ M b (va_cpy (aJ M a) (aJ M b) sp.toNatClampNeg dp.toNatClampNeg n.toNatClampNeg)) b = va_cpy (aJ M a) (aJ M b) sp.toNatClampNeg dp.toNatClampNeg n.toNatClampNeg from if_pos rfl] at hset
  obtain ⟨⟨w1, w2, w3⟩, -⟩ := sp_words
  have hnw : nativeFrameWords "java/lang/System" "arraycopy" 5 = 7 := by decide
  exact va_copyl hx hb hml hown hl (hts _ w1 rfl) (hts _ w2 rfl) (hts _ w3 rfl) hK hP (ws_D base cA M) hS (a - base) (b - base) 1 1 ha hbb rfl rfl rfl h1 h2 h3 h4 h5 (fun _ _ => rfl) hfr (by rw [hnw]; omega) hd (fun H1 locs1 hP1 _ hS1 => kk H1 locs1 (by rw [hset]; exact hP1) hS1)
theorem w_cpR {a b i : Nat} {sp dp n : Int32} (hx : p.tables.exec = Jvm.exec) (hb : c.code = mB y) (hml : c.maxLocals = lsA.size) (hown : s.vm.findClass (cnm (mC y)) = some m.cls) (hts : ∀ w ∈ lw_tbl, reqK w = true → w.before args s = true) (hK : va_K D cls13 (tys5 cA) s) (hP : va_P D cls13 (wsOf base cA M) H) (hv : PIv base M) (hNW : NW s) (hS : va_S (Ab base) s.heap H locs)
    (hl : (Cond.methodLink (cnm (mC y)) i arraycopyName).before args s = true) (ka : kd M a = 23) (kb : kd M b = 23) (h1 : ¬ sp < 0) (h2 : ¬ dp < 0) (h3 : ¬ n < 0) (h4 : sp.toNatClampNeg + n.toNatClampNeg ≤ ln M a) (h5 : dp.toNatClampNeg + n.toNatClampNeg ≤ ln M b)
    (hfr : 1 ≤ R.frames) (hlo : (rest.map fun v => v.category).sum + 60 ≤ R.locals + 8) (hlo2 : (rest.map fun v => v.category).sum ≤ 8) (hd : decode (mB y) pc = .ok (.invokestatic i, 3))
    (kk : ∀ H1 locs1, va_P D cls13 (wsOf base cA (uR M b (va_cpy (aR M a) (aR M b) sp.toNatClampNeg dp.toNatClampNeg n.toNatClampNeg))) H1 → va_S (Ab base) s.heap H1 locs1 → W p l e R s m args below meth c H1 locs1 cells slots Q (F0 m (pc + 3) lsA rest)) : W p l e R s m args below meth c H locs cells slots Q (F0 m pc lsA (.int n :: .int dp :: .ref b :: .int sp :: .ref a :: rest)) := by
  obtain ⟨a1, a2⟩ := hv.2.1 a (by omega)
  obtain ⟨b1, b2⟩ := hv.2.1 b (by omega)
  have ha := ws_get (cA := cA) a1 a2
  have hbb := ws_get (cA := cA) b1 b2
  rw [cell_arr (by omega), arrc_23 ka, ka] at ha
  rw [cell_arr (by omega), arrc_23 kb, kb] at hbb
  have hset := ws_set (cA := cA) (M' := uR M b (va_cpy (aR M a) (aR M b) sp.toNatClampNeg dp.toNatClampNeg n.toNatClampNeg)) b1 b2 rfl (fun q h => cell_uR h)
  have kb' : kd (uR M b (va_cpy (aR M a) (aR M b) sp.toNatClampNeg dp.toNatClampNeg n.toNatClampNeg)) b = 23 := kb
  rw [cell_arr (by omega), arrc_23 kb', kb', show aR (uR M b (va_cpy (aR M a) (aR M b) sp.toNatClampNeg dp.toNatClampNeg n.toNatClampNeg)) b = va_cpy (aR M a) (aR M b) sp.toNatClampNeg dp.toNatClampNeg n.toNatClampNeg from if_pos rfl] at hset
  obtain ⟨⟨w1, w2, w3⟩, -⟩ := sp_words
  have hnw : nativeFrameWords "java/lang/System" "arraycopy" 5 = 7 := by decide
  refine va_copyM hx hb hml hown hl (hts _ w1 rfl) (hts _ w2 rfl) (hts _ w3 rfl) hK hP (ws_D base cA M) hS (a - base) (b - base) 3 3 ha hbb rfl rfl h1 h2 h3 h4 h5 (fun k _ z hz => ?_) hfr (by rw [hnw]; omega) hd (fun H1 locs1 hP1 _ hS1 => kk H1 locs1 (by rw [hset]; exact hP1) hS1)
  obtain ⟨z1, z2⟩ := hv.2.2 a ka _ z hz
  obtain ⟨q1, q2⟩ := hv.2.1 z (by omega)
  have hz2 := ws_get (cA := cA) q1 q2
  rw [cell_obj rfl (by omega)] at hz2
  refine va_rAny hK hP hz2 (cls_at _ (by omega)) (fun comp c0 e1 e2 => ?_)
  obtain ⟨x1, x2, f1, f2, f3⟩ := Cond.castable_spec (va_Nw.use (A := args) rfl (hNW.2.2.2.1 _ z1 z2))
  rw [e2] at f1
  rw [e1] at f2
  cases f1
  cases f2
  exact f3
end SPC
