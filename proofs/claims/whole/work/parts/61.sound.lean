/-! SOUNDNESS: a pure run is a run of the machine -/
/-- the end of a method: which return instruction gives which value -/
def RetV (y : Nat) (ins : Instr) (v : Option PV) : Prop :=
  (ins = .ireturn ∧ ∃ x, v = some (pI x) ∧ (mR y = some .int ∨ (mR y = some .boolean ∧ (x = 0 ∨ x = 1)))) ∨
  (ins = .lreturn ∧ ∃ x, v = some (pJ x) ∧ mR y = some .long) ∨
  (ins = .areturn ∧ ∃ x, v = some (pR x) ∧ ((∃ n, mR y = some (.object n)) ∨ ∃ t, mR y = some (.array t))) ∨
  (ins = .return_ ∧ v = none ∧ mR y = none)
def Cx (l : Launch) (D : va_G) (cA : Nat → ClassId) (base y : Nat) (p : Program) (e : Env) (R : Room) (s : State) (m : MethodId) (args : Array Value) (below : List Frame) (meth : Method) (c : Code) (M0 : Mem) (vz : Option PV) (Me : Mem) (Q : State → Prop) : Prop :=
  p.tables.exec = Jvm.exec ∧ c.code = mB y ∧ c.maxLocals = mL y ∧ s.vm.findClass (cnm (mC y)) = some m.cls ∧ (∀ w ∈ lw_tbl, reqK w = true → w.before args s = true) ∧ (mK y = 2 → meth.name = "<init>") ∧ s.heap.size = mT M0 ∧ base ≤ mT M0 ∧ rF y ≤ R.frames ∧ rL y ≤ R.locals ∧ mT Me - mT M0 ≤ R.cells ∧ mS Me - mS M0 ≤ R.slots ∧ va_K D cls13 (tys5 cA) s ∧ NW s ∧
  (∀ pc ls H locs ins, decode (mB y) pc = .ok (ins, 1) → RetV y ins vz → va_P D cls13 (wsOf base cA Me) H → va_S (Ab base) s.heap H locs → W p l e R s m args below meth c H locs (mT Me - mT M0) (mS Me - mS M0) Q (F0 m pc ls (vz.map pv).toList))
/-- what is to be shown, for runs of n steps -/
def Snd (l : Launch) (D : va_G) (cA : Nat → ClassId) (base : Nat) (P : Prg) (n : Nat) : Prop :=
  ∀ y pc ls st M vz Me, rnF P n y pc ls st M = some (vz, Me) → ∀ p e R s m args below meth c M0 Q H locs lsA, Cx l D cA base y p e R s m args below meth c M0 vz Me Q → Mo M0 M → PIv base M → SF base M s s.heap → va_P D cls13 (wsOf base cA M) H → va_S (Ab base) s.heap H locs → lv_has lsA (mL y) (lvO 0 ls) →
    W p l e R s m args below meth c H locs (mT M - mT M0) (mS M - mS M0) Q (F0 m pc lsA (st.map pv))
/-- a contract out of soundness for its steps -/
theorem met_of {l : Launch} {D : va_G} {cA : Nat → ClassId} {base : Nat} {P : Prg} {n z : Nat} {as : List PV} {M M' : Mem} {v : Option PV} (hz : z < 231) (hn : Snd l D cA base P n) (hlen : (lg_sl (as.map pv)).length ≤ mL z) (hr : rnF P n z 0 (ent as (mL z)) [] M = some (v, M')) (hv : PIv base M) : Mz l base D cA z as M v M' := by
  obtain ⟨m1, m2, m3, m4, m5, m6, m7, m8⟩ := mw_all hz
  refine va_MetF (cc := mB z) (maxL := mL z) (ret := mR z) (List.all_eq_true.mp plain_all z (List.mem_range.mpr hz)) rfl ?_
  intro p e s m args below meth c s₁ B hml hpre
  obtain ⟨rfl, hsz, hP, hK, hSF, hNW⟩ := hpre
  have hx := B.exec
  have hb := B.bytes
  have hrt := B.returns
  have hts := atoms_spec (ws := wsz z) B.pre
  have hown : s.vm.findClass (mN z).cls = some m.cls := findClass_of_methodNamed B.named
  have hlocks := B.notSynchronized
  rw [m4] at hown
  rw [lg_entry_eq]
  have h := hn z 0 (ent as (mL z)) [] M v M' hr p e (rmz z M M') s m (as.map pv).toArray below meth c M (MQ below (Qcz base D cA v M') (as.map pv).toArray s (mT M' - mT M) (mS M' - mS M) (Ab base)) s.heap [] _
    ⟨hx, hb, hml, hown, fun w h1 h2 => hts w (List.mem_cons_of_mem _ (LG_in h1 h2)), fun hk => (name_of_methodNamed B.named B.method).1.trans (m7.resolve_left (fun h => h hk)), hsz, hv.1, Nat.le_refl _, Nat.le_refl _, Nat.le_refl _, Nat.le_refl _, hK, hNW, ?_⟩ (Mo.rf M) hv hSF hP va_S.rf (lay_has as (mL z) hlen)
  · rw [Nat.sub_self, Nat.sub_self] at h
    exact h
  · intro pc ls H locs ins hd hR hPe hS
    rcases hR with ⟨rfl, x, rfl, hq⟩ | ⟨rfl, x, rfl, hq⟩ | ⟨rfl, x, rfl, hq⟩ | ⟨rfl, rfl, hq⟩
    · rcases hq with hq | ⟨hq, h01⟩
      · exact W.zret hx hb (hrt.trans hq) rfl (fun t ht hW => ⟨⟨rfl, by rw [ht]; exact hPe⟩, hS.F ht⟩) hS.2.2 hd
      · exact W.zret hx hb (hrt.trans hq) (nr_bool x h01 .boolean rfl).1 (fun t ht hW => ⟨⟨rfl, by rw [ht]; exact hPe⟩, hS.F ht⟩) hS.2.2 hd
    · exact W.lret hx hb (hrt.trans hq) (fun t ht hW => ⟨⟨rfl, by rw [ht]; exact hPe⟩, hS.F ht⟩) hS.2.2 hd
    · have hvr : va_rf x = .null ∨ ∃ a, va_rf x = .ref a := by cases x with
        | none => exact Or.inl rfl
        | some a => exact Or.inr ⟨a, rfl⟩
      rcases hq with ⟨nn, hq⟩ | ⟨t, hq⟩
      · exact W.aret hx hb (hrt.trans hq) (Or.inl ⟨_, rfl⟩) hvr (fun t ht hW => ⟨⟨rfl, by rw [ht]; exact hPe⟩, hS.F ht⟩) hS.2.2 hd
      · exact W.aret hx hb (hrt.trans hq) (Or.inr ⟨_, rfl⟩) hvr (fun t ht hW => ⟨⟨rfl, by rw [ht]; exact hPe⟩, hS.F ht⟩) hS.2.2 hd
    · exact W.vret hx hb (hrt.trans hq) (fun t ht hW => ⟨⟨rfl, by rw [ht]; exact hPe⟩, hS.F ht⟩) hS.2.2 hd
