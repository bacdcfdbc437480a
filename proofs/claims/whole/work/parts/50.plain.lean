/-! PLAIN INSTRUCTIONS: what stepL says is what the machine does -/
abbrev Ab (base : Nat) : Nat → Prop := fun q => base ≤ q
/-- what was there before: the static arrays, the static fields, the mirror -/
def SF (base : Nat) (M : Mem) (U : State) (H : Heap) : Prop :=
  (∀ a, kd M a = 30 → va_T .int a (ln M a) (fun j => .int (aI M a j)) (Ab base) U H) ∧
  (∀ a, kd M a = 31 → va_T .long a (ln M a) (fun j => .long (aJ M a j)) (Ab base) U H) ∧
  (∀ a, kd M a = 33 → va_T (.object "java/lang/Object") a (ln M a) (fun _ => .null) (Ab base) U H) ∧
  (∀ j, j < 4 → va_Z (stN j).1 (stN j).2.1 (stN j).2.2 (va_rf (sR M j)) (Ab base) U H) ∧
  (∃ mi, sR M 5 = some mi ∧ va_Mi "[Ljava/lang/Object;" mi U) ∧
  (∀ a, 25 ≤ kd M a → kd M a < 40 → kd M a = 30 ∨ kd M a = 31 ∨ kd M a = 33)
theorem SF.mo {base : Nat} {M M' : Mem} {U : State} {H : Heap} (h : SF base M U H) (g : Mo M M') : SF base M' U H := by
  obtain ⟨h1, h2, h3, h4, h5, h6⟩ := h
  refine ⟨fun a ha => ?_, fun a ha => ?_, fun a ha => ?_, fun j hj => ?_, ?_, fun a ha hb => ?_⟩
  · obtain ⟨e1, e2, e3, e4⟩ := g.2.2.2 a (by omega)
    rw [e2, e3]; exact h1 a (by omega)
  · obtain ⟨e1, e2, e3, e4⟩ := g.2.2.2 a (by omega)
    rw [e2, e4]; exact h2 a (by omega)
  · obtain ⟨e1, e2, e3, e4⟩ := g.2.2.2 a (by omega)
    rw [e2]; exact h3 a (by omega)
  · rw [g.2.2.1]; exact h4 j hj
  · rw [g.2.2.1]; exact h5
  · obtain ⟨e1, e2, e3, e4⟩ := g.2.2.2 a ha
    rw [e1] at ha hb ⊢
    exact h6 a ha hb
/-- words that are no words of the tables alone -/
def NW (U : State) : Prop := va_AO "java/lang/Object" U ∧ va_AO "FamilyFields$KeptPart" U ∧ va_Dc U ∧ (∀ c, 1 ≤ c → c ≤ 10 → va_Nw (.castable (cnm c) "java/lang/Object") U) ∧ va_Nw (.castable "[J" "java/lang/Cloneable") U ∧ va_Nw (.fieldLinkNest "FamilyFields$KeptPart" 47 "FamilyFields" "WIDER_SORTS" "[I" "FamilyFields") U
theorem NW.warm {s U : State} (hW : s.WarmedH U.vm) (h : NW s) : NW U := ⟨h.1.moved hW.alike, h.2.1.moved hW.alike, h.2.2.1.moved hW.alike, fun c h1 h2 => va_Nw.warmC hW (h.2.2.2.1 c h1 h2), va_Nw.warmC hW h.2.2.2.2.1, va_Nw.warmF hW h.2.2.2.2.2⟩
theorem and2 {a b : Bool} (h : (a && b) = true) : a = true ∧ b = true := by cases a <;> cases b <;> first | exact ⟨rfl, rfl⟩ | cases h
theorem beqN {a b : Nat} (h : Nat.beq a b = true) : a = b := Nat.eq_of_beq_eq_true h
theorem any2 {α : Type} {l : List α} {f : α → Bool} (h : l.any f = true) : ∃ x, x ∈ l ∧ f x = true := by
  obtain ⟨x, h1, h2⟩ := List.any_eq_true.mp h
  exact ⟨x, h1, h2⟩
theorem in_of {n : Nat} {w : Cond} (h : lw_tbl[n]? = some w) : w ∈ lw_tbl := List.mem_of_getElem? h
theorem ilk_in {r : Nat × Nat × Int32 × Nat} (h : r ∈ ilk) : Cond.constant (cnm r.1) r.2.1 r.2.2.1 ∈ lw_tbl := in_of (of_decide_eq_true (List.all_eq_true.mp ilk_ok r h))
theorem jlk_in {r : Nat × Nat × Int64 × Nat} (h : r ∈ jlk) : Cond.constantLong (cnm r.1) r.2.1 r.2.2.1 ∈ lw_tbl := in_of (of_decide_eq_true (List.all_eq_true.mp jlk_ok r h))
theorem clk_in {r : Nat × Nat × Nat × Nat} (h : r ∈ clk) : Cond.classLink (cnm r.1) r.2.1 (anm r.2.2.1) ∈ lw_tbl := in_of (of_decide_eq_true (List.all_eq_true.mp clk_ok r h))
theorem slk_in {r : Nat × Nat × Nat × Nat} (h : r ∈ slk) : Cond.fieldLink (cnm r.1) r.2.1 (stN r.2.2.1).1 (stN r.2.2.1).2.1 (stN r.2.2.1).2.2 ∈ lw_tbl ∧ r.2.2.1 < 4 := by
  obtain ⟨h1, h2⟩ := and2 (List.all_eq_true.mp slk_ok r h)
  exact ⟨in_of (of_decide_eq_true h1), of_decide_eq_true h2⟩
theorem nlk_is : nlk = [(5, 47, 1, 973)] := rfl
section PLAIN
variable {p : Program} {l : Launch} {e : Env} {R : Room} {s : State} {m : MethodId} {args : Array Value} {below : List Frame} {meth : Method} {c : Code} {H : Heap} {locs : List Loc} {cells slots : Nat} {Q : State → Prop} {base y pc len : Nat} {ins : Instr} {ns : List Nat} {cst : PV} {ls ls' : List (Option PV)} {st st' : List PV} {M : Mem} {lsA : Array Slot}
set_option maxHeartbeats 4000000 in
theorem plain (hx : p.tables.exec = Jvm.exec) (hb : c.code = mB y) (hown : s.vm.findClass (cnm (mC y)) = some m.cls) (hts : ∀ w ∈ lw_tbl, reqK w = true → w.before args s = true) (hSF : SF base M s s.heap) (hNW : NW s) (hS : va_S (Ab base) s.heap H locs)
    (he : stepL ins ns cst ls st M = some (ls', st')) (hd : decode (mB y) pc = .ok (ins, len)) (hok : okI y pc ins len ns cst = true) (hl : lv_has lsA (mL y) (lvO 0 ls))
    (kk : ∀ lsB, lv_has lsB (mL y) (lvO 0 ls') → W p l e R s m args below meth c H locs cells slots Q (F0 m (pc + len) lsB (st'.map pv))) : W p l e R s m args below meth c H locs cells slots Q (F0 m pc lsA (st.map pv)) := by
  cases ins
  case iload i =>
    have hlen : len = 2 := beqN hok
    subst hlen
    simp only [stepL] at he
    split at he
    · rename_i x hg
      cases he
      exact lv_iload hx hb hd (has_get hl hg) (kk _ hl)
    · cases he
  case iload_n i =>
    have hlen : len = 1 := beqN hok
    subst hlen
    simp only [stepL] at he
    split at he
    · rename_i x hg
      cases he
      exact lv_iload_n hx hb hd rfl (has_get hl hg) (kk _ hl)
    · cases he
  case lload i =>
    have hlen : len = 2 := beqN hok
    subst hlen
    simp only [stepL] at he
    split at he
    · rename_i x hg
      cases he
      exact lv_lload hx hb hd (has_get hl hg) (kk _ hl)
    · cases he
  case lload_n i =>
    have hlen : len = 1 := beqN hok
    subst hlen
    simp only [stepL] at he
    split at he
    · rename_i x hg
      cases he
      exact lv_lload_n hx hb hd rfl (has_get hl hg) (kk _ hl)
    · cases he
  case fload i =>
    have hlen : len = 2 := beqN hok
    subst hlen
    simp only [stepL] at he
    split at he
    · rename_i x hg
      cases he
      exact lv_fload hx hb hd (has_get hl hg) (kk _ hl)
    · cases he
  case fload_n i =>
    have hlen : len = 1 := beqN hok
    subst hlen
    simp only [stepL] at he
    split at he
    · rename_i x hg
      cases he
      exact lv_fload_n hx hb hd rfl (has_get hl hg) (kk _ hl)
    · cases he
  case dload i =>
    have hlen : len = 2 := beqN hok
    subst hlen
    simp only [stepL] at he
    split at he
    · rename_i x hg
      cases he
      exact lv_dload hx hb hd (has_get hl hg) (kk _ hl)
    · cases he
  case dload_n i =>
    have hlen : len = 1 := beqN hok
    subst hlen
    simp only [stepL] at he
    split at he
    · rename_i x hg
      cases he
      exact lv_dload_n hx hb hd rfl (has_get hl hg) (kk _ hl)
    · cases he
  case aload i =>
    have hlen : len = 2 := beqN hok
    subst hlen
    simp only [stepL] at he
    split at he
    · rename_i x hg
      cases he
      cases x with
      | none => exact lv_aloadN hx hb hd (has_get hl hg) (kk _ hl)
      | some a => exact lv_aload hx hb hd (has_get hl hg) (kk _ hl)
    · cases he
  case aload_n i =>
    have hlen : len = 1 := beqN hok
    subst hlen
    simp only [stepL] at he
    split at he
    · rename_i x hg
      cases he
      cases x with
      | none => exact lv_aload_nN hx hb hd rfl (has_get hl hg) (kk _ hl)
      | some a => exact lv_aload_n hx hb hd rfl (has_get hl hg) (kk _ hl)
    · cases he
  case istore i =>
    obtain ⟨h1, h2⟩ := and2 hok
    have hlen : len = 2 := beqN h1
    subst hlen
    have hi := Nat.le_of_ble_eq_true h2
    simp only [stepL, nf_eq] at he
    split at he
    · rename_i x st0
      cases he
      exact lv_istore hx hb hd hl hi rfl (fun lsB h => kk lsB (has_lst1 h))
    · cases he
  case istore_n i =>
    obtain ⟨h1, h2⟩ := and2 hok
    have hlen : len = 1 := beqN h1
    subst hlen
    have hi := Nat.le_of_ble_eq_true h2
    simp only [stepL, nf_eq] at he
    split at he
    · rename_i x st0
      cases he
      exact lv_istore_n hx hb hd rfl hl hi rfl (fun lsB h => kk lsB (has_lst1 h))
    · cases he
  case lstore i =>
    obtain ⟨h1, h2⟩ := and2 hok
    have hlen : len = 2 := beqN h1
    subst hlen
    have hi := Nat.le_of_ble_eq_true h2
    simp only [stepL, nf_eq] at he
    split at he
    · rename_i x st0
      cases he
      exact lv_lstore hx hb hd hl hi rfl (fun lsB h => kk lsB (has_lst2 h))
    · cases he
  case lstore_n i =>
    obtain ⟨h1, h2⟩ := and2 hok
    have hlen : len = 1 := beqN h1
    subst hlen
    have hi := Nat.le_of_ble_eq_true h2
    simp only [stepL, nf_eq] at he
    split at he
    · rename_i x st0
      cases he
      exact lv_lstore_n hx hb hd rfl hl hi rfl (fun lsB h => kk lsB (has_lst2 h))
    · cases he
  case dstore i =>
    obtain ⟨h1, h2⟩ := and2 hok
    have hlen : len = 2 := beqN h1
    subst hlen
    have hi := Nat.le_of_ble_eq_true h2
    simp only [stepL, nf_eq] at he
    split at he
    · rename_i x st0
      cases he
      exact lv_dstore hx hb hd hl hi rfl (fun lsB h => kk lsB (has_lst2 h))
    · cases he
  case dstore_n i =>
    obtain ⟨h1, h2⟩ := and2 hok
    have hlen : len = 1 := beqN h1
    subst hlen
    have hi := Nat.le_of_ble_eq_true h2
    simp only [stepL, nf_eq] at he
    split at he
    · rename_i x st0
      cases he
      exact lv_dstore_n hx hb hd rfl hl hi rfl (fun lsB h => kk lsB (has_lst2 h))
    · cases he
  case astore i =>
    obtain ⟨h1, h2⟩ := and2 hok
    have hlen : len = 2 := beqN h1
    subst hlen
    have hi := Nat.le_of_ble_eq_true h2
    simp only [stepL, nf_eq] at he
    split at he
    · rename_i x st0
      cases he
      cases x with
      | none => exact lv_astoreN hx hb hd hl hi rfl (fun lsB h => kk lsB (has_lst1 (v := pR none) h))
      | some b => exact lv_astore hx hb hd hl hi rfl (fun lsB h => kk lsB (has_lst1 (v := pR (some b)) h))
    · cases he
  case astore_n i =>
    obtain ⟨h1, h2⟩ := and2 hok
    have hlen : len = 1 := beqN h1
    subst hlen
    have hi := Nat.le_of_ble_eq_true h2
    simp only [stepL, nf_eq] at he
    split at he
    · rename_i x st0
      cases he
      cases x with
      | none => exact lv_astore_nN hx hb hd rfl hl hi rfl (fun lsB h => kk lsB (has_lst1 (v := pR none) h))
      | some b => exact lv_astore_n hx hb hd rfl hl hi rfl (fun lsB h => kk lsB (has_lst1 (v := pR (some b)) h))
    · cases he
  case iinc i n =>
    obtain ⟨h1, h3⟩ := and2 hok
    obtain ⟨h1, h2⟩ := and2 h1
    have hlen : len = 3 := beqN h1
    subst hlen
    have hi := Nat.le_of_ble_eq_true h2
    have hc := of_decide_eq_true h3
    subst hc
    simp only [stepL, nf_eq] at he
    split at he
    · rename_i x n0 hg hn
      cases hn
      cases he
      have hm := lvO_mem (k := 0) hg
      rw [Nat.zero_add] at hm
      obtain ⟨k, hk⟩ := List.getElem?_of_mem hm
      exact lv_iinc hx hb hd hl hk rfl hi rfl (fun lsB h => kk lsB (has_lst1 (v := pI _) h))
    · cases he
  case iconst n =>
    obtain ⟨h1, h3⟩ := and2 hok
    have hlen : len = 1 := beqN h1
    subst hlen
    have hc := of_decide_eq_true h3
    subst hc
    simp only [stepL] at he
    cases he
    exact lv_iconst hx hb hd rfl (kk _ hl)
  case bipush n =>
    obtain ⟨h1, h3⟩ := and2 hok
    have hlen : len = 2 := beqN h1
    subst hlen
    have hc := of_decide_eq_true h3
    subst hc
    simp only [stepL] at he
    cases he
    exact lv_bipush hx hb hd rfl (kk _ hl)
  case sipush n =>
    obtain ⟨h1, h3⟩ := and2 hok
    have hlen : len = 3 := beqN h1
    subst hlen
    have hc := of_decide_eq_true h3
    subst hc
    simp only [stepL] at he
    cases he
    exact lv_sipush hx hb hd rfl (kk _ hl)
  case lconst n =>
    obtain ⟨h1, h3⟩ := and2 hok
    have hlen : len = 1 := beqN h1
    subst hlen
    have hc := of_decide_eq_true h3
    subst hc
    simp only [stepL] at he
    cases he
    exact lv_lconst hx hb hd rfl (kk _ hl)
  case ldc i =>
    obtain ⟨h1, h3⟩ := and2 hok
    have hlen : len = 2 := beqN h1
    subst hlen
    simp only [stepL] at he
    cases ns with
    | nil =>
      cases he
      obtain ⟨r, hr, hq⟩ := any2 h3
      obtain ⟨g0, g3⟩ := and2 hq
      obtain ⟨g1, g2⟩ := and2 g0
      have hc := of_decide_eq_true g3
      subst hc
      have hw := hts _ (ilk_in hr) rfl
      rw [beqN g1, beqN g2] at hw
      exact lv_ldc hx hb hown hw hd (kk _ hl)
    | cons j t =>
      cases he
      obtain ⟨hj, h3⟩ := and2 h3
      have hj := beqN hj
      subst hj
      obtain ⟨mi, e5, hM⟩ := hSF.2.2.2.2.1
      obtain ⟨r, hr, hr2⟩ := any2 h3
      obtain ⟨hr2, hr3⟩ := and2 hr2
      obtain ⟨hr1, hr2⟩ := and2 hr2
      have hw := hts _ (clk_in hr) rfl
      rw [beqN hr1, beqN hr2, beqN hr3] at hw
      have k2 := kk _ hl
      rw [e5] at k2
      exact va_ldcM hx hb hown hw hM hd k2
  case ldc_w i =>
    obtain ⟨h1, h3⟩ := and2 hok
    have hlen : len = 3 := beqN h1
    subst hlen
    simp only [stepL] at he
    cases he
    obtain ⟨r, hr, hq⟩ := any2 h3
    obtain ⟨g0, g3⟩ := and2 hq
    obtain ⟨g1, g2⟩ := and2 g0
    have hc := of_decide_eq_true g3
    subst hc
    have hw := hts _ (ilk_in hr) rfl
    rw [beqN g1, beqN g2] at hw
    exact lv_ldcw hx hb hown hw hd (kk _ hl)
  case ldc2_w i =>
    obtain ⟨h1, h3⟩ := and2 hok
    have hlen : len = 3 := beqN h1
    subst hlen
    simp only [stepL] at he
    cases he
    obtain ⟨r, hr, hq⟩ := any2 h3
    obtain ⟨g0, g3⟩ := and2 hq
    obtain ⟨g1, g2⟩ := and2 g0
    have hc := of_decide_eq_true g3
    subst hc
    have hw := hts _ (jlk_in hr) rfl
    rw [beqN g1, beqN g2] at hw
    exact lv_ldc2 hx hb hown hw hd (kk _ hl)
  case aconst_null =>
    have hlen : len = 1 := beqN hok
    subst hlen
    simp only [stepL] at he
    cases he
    exact lv_null hx hb hd (kk _ hl)
  case iadd =>
    have hlen : len = 1 := beqN hok
    subst hlen
    simp only [stepL] at he
    split at he
    · cases he
      exact lv_iadd hx hb hd (kk _ hl)
    · cases he
  case isub =>
    have hlen : len = 1 := beqN hok
    subst hlen
    simp only [stepL] at he
    split at he
    · cases he
      exact lv_isub hx hb hd (kk _ hl)
    · cases he
  case imul =>
    have hlen : len = 1 := beqN hok
    subst hlen
    simp only [stepL] at he
    split at he
    · cases he
      exact lv_imul hx hb hd (kk _ hl)
    · cases he
  case iand =>
    have hlen : len = 1 := beqN hok
    subst hlen
    simp only [stepL] at he
    split at he
    · cases he
      exact lv_iand hx hb hd (kk _ hl)
    · cases he
  case ior =>
    have hlen : len = 1 := beqN hok
    subst hlen
    simp only [stepL] at he
    split at he
    · cases he
      exact lv_ior hx hb hd (kk _ hl)
    · cases he
  case ladd =>
    have hlen : len = 1 := beqN hok
    subst hlen
    simp only [stepL] at he
    split at he
    · cases he
      exact lv_ladd hx hb hd (kk _ hl)
    · cases he
  case lsub =>
    have hlen : len = 1 := beqN hok
    subst hlen
    simp only [stepL] at he
    split at he
    · cases he
      exact lv_lsub hx hb hd (kk _ hl)
    · cases he
  case land =>
    have hlen : len = 1 := beqN hok
    subst hlen
    simp only [stepL] at he
    split at he
    · cases he
      exact lv_land hx hb hd (kk _ hl)
    · cases he
  case lor =>
    have hlen : len = 1 := beqN hok
    subst hlen
    simp only [stepL] at he
    split at he
    · cases he
      exact lv_lor hx hb hd (kk _ hl)
    · cases he
  case ishl =>
    have hlen : len = 1 := beqN hok
    subst hlen
    simp only [stepL] at he
    split at he
    · cases he
      exact lv_ishl hx hb hd (kk _ hl)
    · cases he
  case ishr =>
    have hlen : len = 1 := beqN hok
    subst hlen
    simp only [stepL] at he
    split at he
    · cases he
      exact lv_ishr hx hb hd (kk _ hl)
    · cases he
  case ineg =>
    have hlen : len = 1 := beqN hok
    subst hlen
    simp only [stepL] at he
    split at he
    · cases he
      exact lv_ineg hx hb hd (kk _ hl)
    · cases he
  case lneg =>
    have hlen : len = 1 := beqN hok
    subst hlen
    simp only [stepL] at he
    split at he
    · cases he
      exact lv_lneg hx hb hd (kk _ hl)
    · cases he
  case l2d =>
    have hlen : len = 1 := beqN hok
    subst hlen
    simp only [stepL] at he
    split at he
    · cases he
      exact lv_l2d hx hb hd (kk _ hl)
    · cases he
  case l2f =>
    have hlen : len = 1 := beqN hok
    subst hlen
    simp only [stepL] at he
    split at he
    · cases he
      exact lv_l2f hx hb hd (kk _ hl)
    · cases he
  case lcmp =>
    have hlen : len = 1 := beqN hok
    subst hlen
    simp only [stepL] at he
    split at he
    · cases he
      exact W.lcmp hx hb hd (kk _ hl)
    · cases he
  case iushr =>
    have hlen : len = 1 := beqN hok
    subst hlen
    simp only [stepL] at he
    split at he
    · cases he
      exact lv_iushr hx hb hd rfl (kk _ hl)
    · cases he
  case lushr =>
    have hlen : len = 1 := beqN hok
    subst hlen
    simp only [stepL] at he
    split at he
    · cases he
      exact lv_lushr hx hb hd rfl (kk _ hl)
    · cases he
  case lshl =>
    have hlen : len = 1 := beqN hok
    subst hlen
    simp only [stepL] at he
    split at he
    · cases he
      exact lv_lshl hx hb hd rfl (kk _ hl)
    · cases he
  case lshr =>
    have hlen : len = 1 := beqN hok
    subst hlen
    simp only [stepL] at he
    split at he
    · cases he
      exact lv_lshr hx hb hd rfl (kk _ hl)
    · cases he
  case i2l =>
    have hlen : len = 1 := beqN hok
    subst hlen
    simp only [stepL] at he
    split at he
    · cases he
      exact lv_i2l hx hb hd rfl (kk _ hl)
    · cases he
  case l2i =>
    have hlen : len = 1 := beqN hok
    subst hlen
    simp only [stepL] at he
    split at he
    · cases he
      exact lv_l2i hx hb hd rfl (kk _ hl)
    · cases he
  case i2b =>
    have hlen : len = 1 := beqN hok
    subst hlen
    simp only [stepL] at he
    split at he
    · cases he
      exact lv_i2b hx hb hd rfl (kk _ hl)
    · cases he
  case i2s =>
    have hlen : len = 1 := beqN hok
    subst hlen
    simp only [stepL] at he
    split at he
    · cases he
      exact lv_i2s hx hb hd rfl (kk _ hl)
    · cases he
  case i2c =>
    have hlen : len = 1 := beqN hok
    subst hlen
    simp only [stepL] at he
    split at he
    · cases he
      exact lv_i2c hx hb hd rfl (kk _ hl)
    · cases he
  case dcmp op =>
    have hlen : len = 1 := beqN hok
    subst hlen
    simp only [stepL] at he
    split at he
    · cases he
      exact lv_dcmp hx hb hd (kk _ hl)
    · cases he
  case fcmp op =>
    have hlen : len = 1 := beqN hok
    subst hlen
    simp only [stepL] at he
    split at he
    · cases he
      exact lv_fcmp hx hb hd (kk _ hl)
    · cases he
  case pop =>
    have hlen : len = 1 := beqN hok
    subst hlen
    simp only [stepL] at he
    split at he
    · rename_i v st0
      cases hw : Nat.beq (wd v) 1 with
      | false => rw [hw] at he; cases he
      | true =>
        rw [hw] at he
        cases he
        exact lv_pop hx hb hd ((pv_cat v).trans (beqN hw)) (kk _ hl)
    · cases he
  case dup =>
    have hlen : len = 1 := beqN hok
    subst hlen
    simp only [stepL] at he
    split at he
    · rename_i v st0
      cases hw : Nat.beq (wd v) 1 with
      | false => rw [hw] at he; cases he
      | true =>
        rw [hw] at he
        cases he
        exact lv_dup hx hb hd ((pv_cat v).trans (beqN hw)) (kk _ hl)
    · cases he
  case dup_x1 =>
    have hlen : len = 1 := beqN hok
    subst hlen
    simp only [stepL] at he
    split at he
    · rename_i v w st0
      cases hw : Nat.beq (wd v) 1 with
      | false => rw [hw] at he; cases he
      | true =>
        cases hv : Nat.beq (wd w) 1 with
        | false => rw [hw, hv] at he; cases he
        | true =>
          rw [hw, hv] at he
          cases he
          exact lv_dup_x1 hx hb hd ((pv_cat v).trans (beqN hw)) ((pv_cat w).trans (beqN hv)) (kk _ hl)
    · cases he
  case dup2 =>
    have hlen : len = 1 := beqN hok
    subst hlen
    simp only [stepL] at he
    split at he
    · rename_i v w st0
      cases hw : Nat.beq (wd v) 1 with
      | false => rw [hw] at he; cases he
      | true =>
        cases hv : Nat.beq (wd w) 1 with
        | false => rw [hw, hv] at he; cases he
        | true =>
          rw [hw, hv] at he
          cases he
          exact lv_dup2_11 hx hb hd ((pv_cat v).trans (beqN hw)) ((pv_cat w).trans (beqN hv)) (kk _ hl)
    · cases he
  case getstatic i =>
    obtain ⟨h1, h3⟩ := and2 hok
    have hlen : len = 3 := beqN h1
    subst hlen
    simp only [stepL] at he
    cases ns with
    | nil => cases he
    | cons j t =>
      cases he
      rcases (Bool.or_eq_true _ _ ▸ h3 : _ ∨ _) with h3 | h3
      · obtain ⟨r, hr, hr2⟩ := any2 h3
        obtain ⟨hr2, hr3⟩ := and2 hr2
        obtain ⟨hr1, hr2⟩ := and2 hr2
        obtain ⟨hw, hj⟩ := slk_in hr
        have hw := hts _ hw rfl
        rw [beqN hr1, beqN hr2, beqN hr3] at hw
        rw [beqN hr3] at hj
        exact va_gets hx hb (hSF.2.2.2.1 j hj) hS hown hw (fun _ h => h) hd (kk _ hl)
      · obtain ⟨r, hr, hr2⟩ := any2 h3
        obtain ⟨hr2, hr3⟩ := and2 hr2
        obtain ⟨hr1, hr2⟩ := and2 hr2
        rw [nlk_is] at hr
        cases List.mem_singleton.mp hr
        have e1 : mC y = 5 := (beqN hr1).symm
        have e2 : i = 47 := (beqN hr2).symm
        have e3 : j = 1 := (beqN hr3).symm
        subst e2 e3
        rw [e1] at hown
        exact va_getsN hx hb (hSF.2.2.2.1 1 (by omega)) hS hown (va_Nw.use rfl hNW.2.2.2.2.2) (fun _ h => h) hd (kk _ hl)
  all_goals (simp only [stepL] at he; first | (cases he; done) | skip)
end PLAIN
