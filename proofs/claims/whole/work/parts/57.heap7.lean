/-! clone, getClass, casts -/
section SPD
variable {p : Program} {l : Launch} {e : Env} {R : Room} {s : State} {m : MethodId} {args : Array Value} {below : List Frame} {meth : Method} {c : Code} {H : Heap} {locs : List Loc} {cells slots : Nat} {Q : State → Prop} {D : va_G} {cA : Nat → ClassId} {base y pc : Nat} {M : Mem} {lsA : Array Slot} {rest : List Value}
theorem w_cnJ {a i : Nat} (hx : p.tables.exec = Jvm.exec) (hb : c.code = mB y) (hml : c.maxLocals = lsA.size) (hown : s.vm.findClass (cnm (mC y)) = some m.cls) (hts : ∀ w ∈ lw_tbl, reqK w = true → w.before args s = true) (hK : va_K D cls13 (tys5 cA) s) (hP : va_P D cls13 (wsOf base cA M) H) (hv : PIv base M) (hNW : NW s) (hS : va_S (Ab base) s.heap H locs) (hsb : base ≤ s.heap.size) (hsz : s.heap.size + cells = mT M)
    (hl : (Cond.methodLink (cnm (mC y)) i ⟨"[J", "clone", "()Ljava/lang/Object;"⟩).before args s = true) (ka : kd M a = 21)
    (hfr : 1 ≤ R.frames) (hlo : (rest.map fun v => v.category).sum + 14 ≤ R.locals) (hcells : cells + 1 ≤ R.cells) (hslots : slots + ln M a ≤ R.slots) (hd : decode (mB y) pc = .ok (.invokevirtual i, 3))
    (kk : ∀ H1, va_P D cls13 (wsOf base cA (uJ (nA M 21 (ln M a)) (mT M) (aJ M a))) H1 → va_S (Ab base) s.heap H1 locs → W p l e R s m args below meth c H1 locs (cells + 1) (slots + ln M a) Q (F0 m (pc + 3) lsA (.ref (mT M) :: rest))) : W p l e R s m args below meth c H locs cells slots Q (F0 m pc lsA (.ref a :: rest)) := by
  obtain ⟨a1, a2⟩ := hv.2.1 a (by omega)
  have ha := ws_get (cA := cA) a1 a2
  rw [cell_arr (by omega), arrc_21 ka, ka] at ha
  have hpush := ws_push (base := base) (cA := cA) (M := M) (M' := uJ (nA M 21 (ln M a)) (mT M) (aJ M a)) hv.1 rfl (fun b h => (cell_uJ h).trans (cell_nA h))
  have hkd : kd (uJ (nA M 21 (ln M a)) (mT M) (aJ M a)) (mT M) = 21 := if_pos rfl
  have hln : ln (uJ (nA M 21 (ln M a)) (mT M) (aJ M a)) (mT M) = ln M a := if_pos rfl
  have haj : aJ (uJ (nA M 21 (ln M a)) (mT M) (aJ M a)) (mT M) = aJ M a := if_pos rfl
  rw [cell_arr (by omega), arrc_21 hkd, hkd, hln, haj] at hpush
  obtain ⟨-, -, ⟨w1, w2, w3, w4⟩, -⟩ := sp_words
  refine va_clone hx hb hml hown hl (hts _ w1 rfl) (hts _ w2 rfl) (hts _ w3 rfl) (hts _ w4 rfl) hNW.2.2.2.2.1 hK hP (ws_D base cA M) hS (fun q h => Nat.le_trans hsb h) (a - base) 1 ha rfl (va_nm_long (hK.2 1 _ rfl).2) (va_fit (fun _ _ => rfl)) hfr hlo hcells hslots hd (fun q H1 _ hP1 hD1 hS1 => W_size fun hz => ?_)
  have hq := fresh_q hv.1 hP1 hD1 (by omega)
  subst hq
  exact kk H1 (by rw [hpush]; exact hP1) hS1
theorem nm_O : "[" ++ (FieldType.object "java/lang/Object").toString = "[Ljava/lang/Object;" := by decide +kernel
theorem w_getC {a i mi : Nat} (hx : p.tables.exec = Jvm.exec) (hb : c.code = mB y) (hml : c.maxLocals = lsA.size) (hown : s.vm.findClass (cnm (mC y)) = some m.cls) (hts : ∀ w ∈ lw_tbl, reqK w = true → w.before args s = true) (hK : va_K D cls13 (tys5 cA) s) (hP : va_P D cls13 (wsOf base cA M) H) (hv : PIv base M) (hNW : NW s) (hM : va_Mi "[Ljava/lang/Object;" mi s)
    (hl : (Cond.methodLink (cnm (mC y)) i ⟨"java/lang/Object", "getClass", "()Ljava/lang/Class;"⟩).before args s = true) (ka : kd M a = 23) (hfr : 1 ≤ R.frames) (hlo : (rest.map fun v => v.category).sum + 14 ≤ R.locals) (hd : decode (mB y) pc = .ok (.invokevirtual i, 3))
    (kk : W p l e R s m args below meth c H locs cells slots Q (F0 m (pc + 3) lsA (.ref mi :: rest))) : W p l e R s m args below meth c H locs cells slots Q (F0 m pc lsA (.ref a :: rest)) := by
  obtain ⟨a1, a2⟩ := hv.2.1 a (by omega)
  have ha := ws_get (cA := cA) a1 a2
  rw [cell_arr (by omega), arrc_23 ka, ka] at ha
  obtain ⟨-, ⟨w1, w2, w3⟩, -⟩ := sp_words
  have hcell : H[a]? = some (vp_cell (cA 23) (ln M a, .inr (.inr (.inr (.inr (aR M a)))))) := hP _ _ ha
  obtain ⟨-, -, -, -, -, f⟩ := (hK.2 3 _ rfl).2
  rw [nm_O] at f
  exact va_getC hx hb hml hown hl (va_Dc.use hNW.2.2.1) (hts _ w1 rfl) (hts _ w2 rfl) (hts _ w3 rfl) hM ⟨_, hcell, rfl, f⟩ hfr hlo hd kk
theorem w_cast {r : Option Nat} {ci i : Nat} (hx : p.tables.exec = Jvm.exec) (hb : c.code = mB y) (hown : s.vm.findClass (cnm (mC y)) = some m.cls) (hK : va_K D cls13 (tys5 cA) s) (hP : va_P D cls13 (wsOf base cA M) H) (hv : PIv base M)
    (hl : (Cond.classLink (cnm (mC y)) i (anm ci)).before args s = true) (hci : ci ≤ 12 ∨ ci = 21 ∨ ci = 23) (hr : ∀ a, r = some a → kd M a = ci) (hd : decode (mB y) pc = .ok (.checkcast i, 3))
    (kk : W p l e R s m args below meth c H locs cells slots Q (F0 m (pc + 3) lsA (va_rf r :: rest))) : W p l e R s m args below meth c H locs cells slots Q (F0 m pc lsA (va_rf r :: rest)) := by
  cases r with
  | none => exact lv_castN hx hb hd kk
  | some a =>
    have hk := hr a rfl
    obtain ⟨a1, a2⟩ := hv.2.1 a (by omega)
    have ha := ws_get (cA := cA) a1 a2
    rcases hci with h | h | h
    · rw [cell_obj hk (by omega)] at ha
      rw [anm_own (by omega)] at hl
      exact va_castS hx hb hown hl (hK.1 ci _ (cls_at ci (by omega))).2 (va_recv hK hP (cls_at ci (by omega)) ha) hd kk
    · rw [cell_arr (by omega), hk] at ha
      subst h
      exact va_castA hx hb hown hl hP (a - base) ha (va_nm_long (hK.2 1 _ rfl).2) hd kk
    · rw [cell_arr (by omega), hk] at ha
      subst h
      obtain ⟨-, -, -, -, -, f⟩ := (hK.2 3 _ rfl).2
      rw [nm_O] at f
      exact va_castA hx hb hown hl hP (a - base) ha f hd kk
end SPD
