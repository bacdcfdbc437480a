/-! calls over the machine -/
section CALL
variable {p : Program} {l : Launch} {e : Env} {R : Room} {s : State} {m : MethodId} {args : Array Value} {below : List Frame} {meth : Method} {c : Code} {H : Heap} {locs : List Loc} {cells slots : Nat} {Q : State → Prop} {D : va_G} {cA : Nat → ClassId} {base y pc : Nat} {M M' : Mem} {lsA : Array Slot} {v : Option PV}
theorem pre_U {as : List PV} {U : State} (hK : va_K D cls13 (tys5 cA) s) (hP : va_P D cls13 (wsOf base cA M) H) (hSF : SF base M s s.heap) (hNW : NW s) (hS : va_S (Ab base) s.heap H locs) (hHz : H.size = mT M) (hU : U.heap = H) (hW : s.WarmedH U.vm) : Pcz base D cA M as (as.map pv).toArray U := by
  refine ⟨rfl, by rw [hU]; exact hHz, by rw [hU]; exact hP, va_K.moved hW.alike hK, ?_, hNW.warm hW⟩
  rw [hU]
  exact hSF.moved hW.alike hS.2.1
theorem w_callV {z a i na : Nat} {as rest : List PV} (hx : p.tables.exec = Jvm.exec) (hb : c.code = mB y) (hml : c.maxLocals = mL y) (hsize : lsA.size = mL y) (hown : s.vm.findClass (cnm (mC y)) = some m.cls) (hts : ∀ w ∈ lw_tbl, reqK w = true → w.before args s = true) (hK : va_K D cls13 (tys5 cA) s) (hP : va_P D cls13 (wsOf base cA M) H) (hv : PIv base M) (hSF : SF base M s s.heap) (hNW : NW s) (hS : va_S (Ab base) s.heap H locs) (hHz : H.size = mT M)
    (hz : z < 231) (hk1 : mK z = 1) {r : Nat × Nat × Nat × Nat} (hr : r ∈ mlk) (r1 : r.1 = mC y) (r2 : r.2.1 = i) (r3 : r.2.2.1 = z) (hpd : (parseMethodDescriptor (mN z).desc).map (fun d => d.parameters.length + 1) = some na) (hna : as.length + 1 = na) (hM : Mz l base D cA z (pR (some a) :: as) M v M') (ha : kd M a = mC z) (hc : mC z ≤ 12)
    (hRf : rF z + 1 ≤ R.frames) (hRl : 19 + mL z + rL z ≤ R.locals) (hw : wds rest ≤ 8) (hcc : cells + (mT M' - mT M) ≤ R.cells ∧ slots + (mS M' - mS M) ≤ R.slots) (hd : decode (mB y) pc = .ok (.invokevirtual i, 3))
    (kk : ∀ H1 locs1, va_P D cls13 (wsOf base cA M') H1 → va_S (Ab base) s.heap H1 locs1 → W p l e R s m args below meth c H1 locs1 (cells + (mT M' - mT M)) (slots + (mS M' - mS M)) Q (F0 m (pc + 3) lsA ((v.map pv).toList ++ rest.map pv))) : W p l e R s m args below meth c H locs cells slots Q (F0 m pc lsA ((as.map pv).reverse ++ .ref a :: rest.map pv)) := by
  obtain ⟨m1, m2, m3, m4, m5, m6, m7, m8⟩ := mw_all hz
  rw [hk1, if_neg (by decide)] at m1
  have m2 := m2.resolve_left (fun h => h hk1)
  have hlk := mlk_in hr
  rw [r1, r2, r3] at hlk
  have hT : GoodIn LG (wsV (cnm (mC y)) i (mN z).cls (mN z) (wsz z)) := by
    intro w hw
    rcases List.mem_append.mp hw with h | h
    · rcases (by simpa using h : w = _ ∨ w = _ ∨ w = _ ∨ w = _) with rfl | rfl | rfl | rfl
      · exact good1 hlk rfl
      · exact good1 m1 rfl
      · exact good1 m2 rfl
      · exact good1 m3 rfl
    · exact ws_good hz w h
  have hpar : (parseMethodDescriptor (mN z).desc).map (fun d => d.parameters.length) = some as.length := by
    cases hq : parseMethodDescriptor (mN z).desc with
    | none => rw [hq] at hpd; cases hpd
    | some d =>
      rw [hq] at hpd
      have : d.parameters.length + 1 = na := Option.some.inj hpd
      show some d.parameters.length = some as.length
      congr 1
      omega
  have htg : ∀ w ∈ LG, w.before args s = true := fun w h => hts w (LG_of h).1 (LG_of h).2
  obtain ⟨a1, a2⟩ := hv.2.1 a (by omega)
  have hwa := ws_get (cA := cA) a1 a2
  rw [cell_obj ha (by omega)] at hwa
  have hrecv := va_recv hK hP (cls_at (mC z) (by omega)) hwa
  refine callG (va_runV (As := as.map pv) (rest := rest.map pv) (n := as.length) ⟨hx, hb, hml, hown, htg⟩ hM (cwV as.length htg hT rfl rfl rfl ⟨rfl, m5, m6, hpar⟩ ⟨hRf, show 8 + (mL z + 11) + rL z ≤ R.locals by omega⟩) ⟨blind base D cA M _, ?_, fun U hU hW => pre_U hK hP hSF hNW hS hHz hU hW⟩ rfl (by simp) hsize rfl (lv_room (by rw [wds_sum]; exact hw)) hd hcc) hS (fun q h => h) kk
  rw [m4]
  exact hrecv
theorem w_callS {z i na : Nat} {as rest : List PV} (hx : p.tables.exec = Jvm.exec) (hb : c.code = mB y) (hml : c.maxLocals = mL y) (hsize : lsA.size = mL y) (hown : s.vm.findClass (cnm (mC y)) = some m.cls) (hts : ∀ w ∈ lw_tbl, reqK w = true → w.before args s = true) (hK : va_K D cls13 (tys5 cA) s) (hP : va_P D cls13 (wsOf base cA M) H) (hSF : SF base M s s.heap) (hNW : NW s) (hS : va_S (Ab base) s.heap H locs) (hHz : H.size = mT M)
    (hz : z < 231) (hk1 : mK z = 0) {r : Nat × Nat × Nat × Nat} (hr : r ∈ mlk) (r1 : r.1 = mC y) (r2 : r.2.1 = i) (r3 : r.2.2.1 = z) (hpd : (parseMethodDescriptor (mN z).desc).map (fun d => d.parameters.length + 0) = some na) (hna : as.length = na) (hM : Mz l base D cA z as M v M')
    (hRf : rF z + 1 ≤ R.frames) (hRl : 19 + mL z + rL z ≤ R.locals) (hw : wds rest ≤ 8) (hcc : cells + (mT M' - mT M) ≤ R.cells ∧ slots + (mS M' - mS M) ≤ R.slots) (hd : decode (mB y) pc = .ok (.invokestatic i, 3))
    (kk : ∀ H1 locs1, va_P D cls13 (wsOf base cA M') H1 → va_S (Ab base) s.heap H1 locs1 → W p l e R s m args below meth c H1 locs1 (cells + (mT M' - mT M)) (slots + (mS M' - mS M)) Q (F0 m (pc + 3) lsA ((v.map pv).toList ++ rest.map pv))) : W p l e R s m args below meth c H locs cells slots Q (F0 m pc lsA ((as.map pv).reverse ++ rest.map pv)) := by
  obtain ⟨m1, m2, m3, m4, m5, m6, m7, m8⟩ := mw_all hz
  rw [hk1, if_pos rfl] at m1
  have hlk := mlk_in hr
  rw [r1, r2, r3] at hlk
  have hpar : (parseMethodDescriptor (mN z).desc).map (fun d => d.parameters.length) = some as.length := by
    cases hq : parseMethodDescriptor (mN z).desc with
    | none => rw [hq] at hpd; cases hpd
    | some d =>
      rw [hq] at hpd
      have : d.parameters.length + 0 = na := Option.some.inj hpd
      show some d.parameters.length = some as.length
      congr 1
      omega
  have htg : ∀ w ∈ LG, w.before args s = true := fun w h => hts w (LG_of h).1 (LG_of h).2
  exact callG (va_runS (As := as.map pv) (rest := rest.map pv) (n := as.length) ⟨hx, hb, hml, hown, htg⟩ hM ⟨callB_of as.length htg (ws_good hz) rfl rfl rfl (hts _ m3 rfl) (hts _ hlk rfl) ⟨m5, m6, hpar⟩ ⟨hRf, show 8 + (mL z + 11) + rL z ≤ R.locals by omega⟩, hts _ m1 rfl⟩ ⟨blind base D cA M _, fun U hU hW => pre_U hK hP hSF hNW hS hHz hU hW⟩ rfl (by simp) hsize rfl (lv_room (by rw [wds_sum]; exact hw)) hd hcc) hS (fun q h => h) kk
theorem w_callI {z a i na : Nat} {as rest : List PV} (hx : p.tables.exec = Jvm.exec) (hb : c.code = mB y) (hml : c.maxLocals = mL y) (hsize : lsA.size = mL y) (hown : s.vm.findClass (cnm (mC y)) = some m.cls) (hts : ∀ w ∈ lw_tbl, reqK w = true → w.before args s = true) (hK : va_K D cls13 (tys5 cA) s) (hP : va_P D cls13 (wsOf base cA M) H) (hSF : SF base M s s.heap) (hNW : NW s) (hS : va_S (Ab base) s.heap H locs) (hHz : H.size = mT M)
    (hz : z < 231) (hk1 : mK z = 2) (hrt : mR z = none) {r : Nat × Nat × Nat × Nat} (hr : r ∈ mlk) (r1 : r.1 = mC y) (r2 : r.2.1 = i) (r3 : r.2.2.1 = z) (hpd : (parseMethodDescriptor (mN z).desc).map (fun d => d.parameters.length + 1) = some na) (hna : as.length + 1 = na) (hM : Mz l base D cA z (pR (some a) :: as) M v M')
    (hRf : rF z + 1 ≤ R.frames) (hRl : 19 + mL z + rL z ≤ R.locals) (hw : wds rest ≤ 8) (hcc : cells + (mT M' - mT M) ≤ R.cells ∧ slots + (mS M' - mS M) ≤ R.slots) (hd : decode (mB y) pc = .ok (.invokespecial i, 3))
    (kk : ∀ H1 locs1, va_P D cls13 (wsOf base cA M') H1 → va_S (Ab base) s.heap H1 locs1 → W p l e R s m args below meth c H1 locs1 (cells + (mT M' - mT M)) (slots + (mS M' - mS M)) Q (F0 m (pc + 3) lsA ((v.map pv).toList ++ rest.map pv))) : W p l e R s m args below meth c H locs cells slots Q (F0 m pc lsA ((as.map pv).reverse ++ .ref a :: rest.map pv)) := by
  obtain ⟨m1, m2, m3, m4, m5, m6, m7, m8⟩ := mw_all hz
  rw [hk1, if_neg (by decide)] at m1
  have hlk := mlk_in hr
  rw [r1, r2, r3] at hlk
  have hpar : (parseMethodDescriptor (mN z).desc).map (fun d => d.parameters.length) = some as.length := by
    cases hq : parseMethodDescriptor (mN z).desc with
    | none => rw [hq] at hpd; cases hpd
    | some d =>
      rw [hq] at hpd
      have : d.parameters.length + 1 = na := Option.some.inj hpd
      show some d.parameters.length = some as.length
      congr 1
      omega
  have htg : ∀ w ∈ LG, w.before args s = true := fun w h => hts w (LG_of h).1 (LG_of h).2
  have hwz : wsz z = Cond.code (mN z) (mB z) (mL z) none :: LG := by show Cond.code (mN z) (mB z) (mL z) (mR z) :: LG = _; rw [hrt]
  exact callG (va_runI (As := as.map pv) (rest := rest.map pv) (n := as.length) (bytes := mB z) (maxL := mL z) ⟨hx, hb, hml, hown, htg⟩ hM ⟨callB_of as.length htg (ws_good hz) hwz rfl rfl (hts _ m3 rfl) (hts _ hlk rfl) ⟨m5, m6, hpar⟩ ⟨hRf, show 8 + (mL z + 11) + rL z ≤ R.locals by omega⟩, m7.resolve_left (fun h => h hk1), hts _ m1 rfl⟩ ⟨blind base D cA M _, fun U hU hW => pre_U hK hP hSF hNW hS hHz hU hW⟩ rfl (by simp) hsize rfl (lv_room (by rw [wds_sum]; exact hw)) hd hcc) hS (fun q h => h) kk
end CALL
