/-! new cells over the machine -/
theorem inst_all : ∀ c, c < 13 → Cond.instantiable (cnm c) (nfl c) ∈ lw_tbl := by decide +kernel
theorem init_all : ∀ c, c < 13 → Cond.initialized (cnm c) ∈ lw_tbl := by decide +kernel
theorem dflt_all : ∀ c, c < 13 → ∀ k, k < nfl c → (fS c k = 1 → defaultValue (fY c k) = .long 0) ∧ (fS c k = 2 → defaultValue (fY c k) = .null) ∧ (fS c k ≠ 1 → fS c k ≠ 2 → defaultValue (fY c k) = .int 0) := by decide +kernel
theorem anm_own {c : Nat} (h : c < 13) : anm c = cnm c := if_pos h
theorem new_flds {M : Mem} {ci n : Nat} (hc : ci < 13) : ∀ j, j < nfl ci → defaultValue (fY ci j) = vp_V (flds (nO M ci n) ci (mT M)) j := by
  intro j hj
  have h1 : vp_V (flds (nO M ci n) ci (mT M)) j = fv (nO M ci n) ci (mT M) j := by
    unfold vp_V
    rw [List.getD_eq_getElem?_getD, flds_get hj]
    rfl
  rw [h1]
  obtain ⟨d1, d2, d3⟩ := dflt_all ci hc j hj
  unfold fv
  split
  · rename_i h
    rw [d1 h]
    exact congrArg Value.long (if_pos rfl).symm
  · rename_i h
    rw [d2 h]
    have : gR (nO M ci n) (64 * ci + j) (mT M) = none := if_pos rfl
    rw [this]
    rfl
  · rename_i ha hb
    rw [d3 ha hb]
    exact congrArg Value.int (if_pos rfl).symm
section NEW
variable {p : Program} {l : Launch} {e : Env} {R : Room} {s : State} {m : MethodId} {args : Array Value} {below : List Frame} {meth : Method} {c : Code} {H : Heap} {locs : List Loc} {cells slots : Nat} {Q : State → Prop} {D : va_G} {cA : Nat → ClassId} {base y pc : Nat} {M : Mem} {lsA : Array Slot} {rest : List Value}
theorem w_new {ci i : Nat} (hx : p.tables.exec = Jvm.exec) (hb : c.code = mB y) (hown : s.vm.findClass (cnm (mC y)) = some m.cls) (hts : ∀ w ∈ lw_tbl, reqK w = true → w.before args s = true) (hK : va_K D cls13 (tys5 cA) s) (hP : va_P D cls13 (wsOf base cA M) H) (hv : PIv base M) (hS : va_S (Ab base) s.heap H locs) (hsb : base ≤ s.heap.size) (hsz : s.heap.size + cells = mT M)
    (hc : ci < 13) (hl : (Cond.classLink (cnm (mC y)) i (cnm ci)).before args s = true) (hcells : cells + 1 ≤ R.cells) (hslots : slots + nfl ci ≤ R.slots) (hd : decode (mB y) pc = .ok (.new i, 3))
    (kk : ∀ H1, va_P D cls13 (wsOf base cA (nO M ci (nfl ci))) H1 → va_S (Ab base) s.heap H1 locs → W p l e R s m args below meth c H1 locs (cells + 1) (slots + nfl ci) Q (F0 m (pc + 3) lsA (.ref (mT M) :: rest))) : W p l e R s m args below meth c H locs cells slots Q (F0 m pc lsA rest) := by
  have hpush := ws_push (base := base) (cA := cA) (M := M) (M' := nO M ci (nfl ci)) hv.1 rfl (fun b h => cell_nO h)
  have hkd : kd (nO M ci (nfl ci)) (mT M) = ci := if_pos rfl
  rw [cell_obj hkd hc] at hpush
  refine va_new hx hb (Ts := LG) (fun w h => hts w (LG_of h).1 (LG_of h).2) (cW_all ci hc) (fY ci) (cY_all ci hc) hown hl (hts _ (inst_all ci hc) rfl) (hts _ (init_all ci hc) rfl) hK hP (ws_D base cA M) hS (fun q h => Nat.le_trans hsb h) (cls_at ci hc) (new_flds (M := M) (n := nfl ci) hc) hcells hslots hd (fun q H1 hP1 hD1 hS1 => W_size fun hz => ?_)
  have hq := fresh_q hv.1 hP1 hD1 (by omega)
  subst hq
  exact kk H1 (by rw [hpush]; exact hP1) hS1
theorem w_newa {ci : Nat} {n : Int32} {at0 : ArrayType} {ty : FieldType} {t0 : Nat} {a0 : vp_A} (hx : p.tables.exec = Jvm.exec) (hb : c.code = mB y) (hts : ∀ w ∈ lw_tbl, reqK w = true → w.before args s = true) (hK : va_K D cls13 (tys5 cA) s) (hP : va_P D cls13 (wsOf base cA M) H) (hv : PIv base M) (hS : va_S (Ab base) s.heap H locs) (hsb : base ≤ s.heap.size) (hsz : s.heap.size + cells = mT M)
    (hci : 13 ≤ ci) (hat : newarray.typeOf at0 = ty) (hw : Cond.arrayClass ty ∈ lw_tbl) (ht : (tys5 cA)[t0]? = some (cA ci, ty)) (hra : ∀ x, va_RA s x ty → va_RA s (cA ci) ty → x = cA ci) (ha : ∀ x : ClassId, vp_cell x a0 = arrV x n.toNatClampNeg (fun _ => defaultValue ty)) (hac : arrc (nA M ci n.toNatClampNeg) (mT M) = a0) (hn : ¬ n < 0) (hby : n.toNatClampNeg * componentBytes ty ≤ 536870912)
    (hcells : cells + 1 ≤ R.cells) (hslots : slots + n.toNatClampNeg ≤ R.slots) (hd : decode (mB y) pc = .ok (.newarray at0, 2))
    (kk : ∀ H1, va_P D cls13 (wsOf base cA (nA M ci n.toNatClampNeg)) H1 → va_S (Ab base) s.heap H1 locs → W p l e R s m args below meth c H1 locs (cells + 1) (slots + n.toNatClampNeg) Q (F0 m (pc + 2) lsA (.ref (mT M) :: rest))) : W p l e R s m args below meth c H locs cells slots Q (F0 m pc lsA (.int n :: rest)) := by
  have hpush := ws_push (base := base) (cA := cA) (M := M) (M' := nA M ci n.toNatClampNeg) hv.1 rfl (fun b h => cell_nA h)
  have hkd : kd (nA M ci n.toNatClampNeg) (mT M) = ci := if_pos rfl
  rw [cell_arr (by omega), hkd, hac] at hpush
  refine va_newa hx hb (by rw [hat]; exact hts _ hw rfl) hat hK hP (ws_D base cA M) hS (fun q h => Nat.le_trans hsb h) ha hn rfl hby hcells hslots hd (fun q x H1 hK1 hP1 hD1 hS1 => W_size fun hz => ?_)
  have hxx : x = cA ci := by
    have h5 : (tys5 cA ++ [(x, ty)])[5]? = some (x, ty) := rfl
    exact hra x (hK1.2 5 _ h5).2 (hK.2 t0 _ ht).2
  subst hxx
  have hq := fresh_q hv.1 hP1 hD1 (by omega)
  subst hq
  exact kk H1 (by rw [hpush]; exact hP1) hS1
theorem w_newq {ci i : Nat} {n : Int32} {E : String} {t0 : Nat} (hx : p.tables.exec = Jvm.exec) (hb : c.code = mB y) (hown : s.vm.findClass (cnm (mC y)) = some m.cls) (hK : va_K D cls13 (tys5 cA) s) (hP : va_P D cls13 (wsOf base cA M) H) (hv : PIv base M) (hS : va_S (Ab base) s.heap H locs) (hsb : base ≤ s.heap.size) (hsz : s.heap.size + cells = mT M)
    (hci : ci = 23 ∨ ci = 24) (hl : (Cond.classLink (cnm (mC y)) i E).before args s = true) (hov : va_AO E s) (ht : (tys5 cA)[t0]? = some (cA ci, .object E)) (hn : ¬ n < 0) (hby : n.toNatClampNeg * 4 ≤ 536870912)
    (hcells : cells + 1 ≤ R.cells) (hslots : slots + n.toNatClampNeg ≤ R.slots) (hd : decode (mB y) pc = .ok (.anewarray i, 3))
    (kk : ∀ H1, va_P D cls13 (wsOf base cA (nA M ci n.toNatClampNeg)) H1 → va_S (Ab base) s.heap H1 locs → W p l e R s m args below meth c H1 locs (cells + 1) (slots + n.toNatClampNeg) Q (F0 m (pc + 3) lsA (.ref (mT M) :: rest))) : W p l e R s m args below meth c H locs cells slots Q (F0 m pc lsA (.int n :: rest)) := by
  have hpush := ws_push (base := base) (cA := cA) (M := M) (M' := nA M ci n.toNatClampNeg) hv.1 rfl (fun b h => cell_nA h)
  have hkd : kd (nA M ci n.toNatClampNeg) (mT M) = ci := if_pos rfl
  have hln : ln (nA M ci n.toNatClampNeg) (mT M) = n.toNatClampNeg := if_pos rfl
  have har : aR (nA M ci n.toNatClampNeg) (mT M) = fun _ => none := if_pos rfl
  have hac : arrc (nA M ci n.toNatClampNeg) (mT M) = (n.toNatClampNeg, .inr (.inr (.inr (.inr (fun _ => none))))) := by
    rcases hci with h | h
    · rw [arrc_23 (hkd.trans h), hln, har]
    · rw [arrc_24 (hkd.trans h), hln, har]
  rw [cell_arr (by omega), hkd, hac] at hpush
  refine va_newq hx hb hown hl hov hK hP (ws_D base cA M) hS (fun q h => Nat.le_trans hsb h) hn rfl hby hcells hslots hd (fun q x H1 hK1 hP1 hD1 hS1 => W_size fun hz => ?_)
  have hxx : x = cA ci := by
    have h5 : (tys5 cA ++ [(x, FieldType.object E)])[5]? = some (x, .object E) := rfl
    obtain ⟨-, -, -, -, -, f1⟩ := (hK1.2 5 _ h5).2
    obtain ⟨-, -, -, -, -, f2⟩ := (hK.2 t0 _ ht).2
    rw [f1] at f2
    exact Option.some.inj f2
  subst hxx
  have hq := fresh_q hv.1 hP1 hD1 (by omega)
  subst hq
  exact kk H1 (by rw [hpush]; exact hP1) hS1
end NEW
