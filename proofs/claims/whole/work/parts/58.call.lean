/-! calls: a method's contract out of a pure run -/
theorem NW.same {u U : State} (h : u.vm = U.vm) (g : NW u) : NW U := by
  have hA : u.vm.Alike U.vm := by rw [h]; exact Vm.Alike.refl _
  exact ⟨g.1.moved hA, g.2.1.moved hA, g.2.2.1.moved hA, fun c h1 h2 => va_Nw.same rfl h (g.2.2.2.1 c h1 h2), va_Nw.same rfl h g.2.2.2.2.1, va_Nw.same rfl h g.2.2.2.2.2⟩
theorem SF.moved {base : Nat} {M : Mem} {u U : State} {H H1 : Heap} (hA : u.vm.Alike U.vm) (hq : ∀ a : Nat, a < H.size → ¬ Ab base a → H1[a]? = H[a]?) (g : SF base M u H) : SF base M U H1 :=
  ⟨fun a ha => ((g.1 a ha).moved hA).kept hq, fun a ha => ((g.2.1 a ha).moved hA).kept hq, fun a ha => ((g.2.2.1 a ha).moved hA).kept hq, fun j hj => ((g.2.2.2.1 j hj).moved hA).kept hq, by
    obtain ⟨mi, h1, h2⟩ := g.2.2.2.2.1
    exact ⟨mi, h1, h2.moved hA⟩, g.2.2.2.2.2⟩
def Pcz (base : Nat) (D : va_G) (cA : Nat → ClassId) (M : Mem) (as : List PV) : Array Value → State → Prop := va_Pc (as.map pv) (fun U => U.heap.size = mT M ∧ va_P D cls13 (wsOf base cA M) U.heap ∧ va_K D cls13 (tys5 cA) U ∧ SF base M U U.heap ∧ NW U)
def Qcz (base : Nat) (D : va_G) (cA : Nat → ClassId) (v : Option PV) (M' : Mem) : Array Value → State → Outcome → State → Prop := fun _ st oc t => (oc = .returned (v.map pv) ∧ va_P D cls13 (wsOf base cA M') t.heap) ∧ va_F (Ab base) st t
abbrev wsz (z : Nat) : List Cond := Cond.code (mN z) (mB z) (mL z) (mR z) :: LG
abbrev rmz (z : Nat) (M M' : Mem) : Room := { frames := rF z, cells := mT M' - mT M, slots := mS M' - mS M, locals := rL z }
abbrev Mz (l : Launch) (base : Nat) (D : va_G) (cA : Nat → ClassId) (z : Nat) (as : List PV) (M : Mem) (v : Option PV) (M' : Mem) : Prop := Met l (mN z) (wsz z) (rmz z M M') (Pcz base D cA M as) (Qcz base D cA v M') (mT M' - mT M) (mS M' - mS M) (Ab base)
theorem blind (base : Nat) (D : va_G) (cA : Nat → ClassId) (M : Mem) (as : List PV) : FrameBlind (Pcz base D cA M as) := by
  intro a U g mk q
  obtain ⟨q0, q1, q2, q3, q4, q5⟩ := q
  exact ⟨q0, q1, q2, va_K.moved (u := U) (U := U.calling g mk a) (Vm.Alike.refl U.vm) q3, SF.moved (u := U) (U := U.calling g mk a) (H := U.heap) (H1 := U.heap) (Vm.Alike.refl U.vm) (fun _ _ _ => rfl) q4, NW.same (u := U) (U := U.calling g mk a) rfl q5⟩
theorem callG {p : Program} {l : Launch} {e : Env} {R : Room} {s : State} {m : MethodId} {args : Array Value} {below : List Frame} {meth : Method} {c : Code} {H : Heap} {locs : List Loc} {cells slots mc ms pc : Nat} {Q : State → Prop} {ls : Array Slot} {st0 rest : List Value} {v0 : Option Value} {RH : Heap → Prop} {A free : Nat → Prop}
    (hr : va_Run p l e R s m args below meth c H locs cells slots mc ms (F0 m pc ls st0) rest (fun st oc t => (oc = .returned v0 ∧ RH t.heap) ∧ va_F A st t) free) (hS : va_S A s.heap H locs) (hf : ∀ q, free q → A q)
    (kk : ∀ H1 locs1, RH H1 → va_S A s.heap H1 locs1 → W p l e R s m args below meth c H1 locs1 (cells + mc) (slots + ms) Q (F0 m (pc + 3) ls (v0.toList ++ rest))) : W p l e R s m args below meth c H locs cells slots Q (F0 m pc ls st0) := by
  intro T hT X
  obtain ⟨v, st₀, t, T', L, h0, X', hL, e1, e2, ⟨⟨hv, hb⟩, hz, hk⟩, st⟩ := hr T hT X
  cases hv
  rw [h0] at hz hk
  obtain ⟨t2, a1, b1⟩ := kk T'.heap (locs ++ L) (by rw [e1]; exact hb) ⟨Nat.le_trans hS.1 (by rw [e1]; exact hz), fun q h1 h2 => by rw [e1, hk q (Nat.lt_of_lt_of_le h1 hS.1) h2]; exact hS.2.1 q h1 h2, fun q hq => (List.mem_append.mp hq).elim (hS.2.2 q) (fun h => hf _ (hL q h))⟩ T' rfl X'
  exact ⟨t2, st t2 a1, b1⟩
theorem LG_good : GoodIn lw_tbl LG := by
  intro w hw
  obtain ⟨h1, h2⟩ := LG_of hw
  have h3 := List.all_eq_true.mp tbl_good w h1
  rw [h2] at h3
  exact ⟨h1, good_of_word h3⟩
