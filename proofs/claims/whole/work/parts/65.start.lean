/-! THE START: the law's walk out of a pure run -/
def csv (j : Nat) : Int32 := ([255, 3328, 62, 30, 1024, 2048, 256] : List Int32).getD j 0
def wiv (j : Nat) : Int32 := ([0, 244, 240, 240, 224, 192, 128, 0, 0, 0, 0, 0] : List Int32).getD j 0
/-- the memory at the start: the script at b, the static arrays -/
def M00 (h b cs wi no de mi L : Nat) (xs : Nat → Int32) : Mem :=
  (h, 0, (fun a => if a = b ∨ a = cs ∨ a = wi then 30 else if a = no then 31 else if a = de then 33 else 99), (fun _ _ => 0), (fun _ _ => 0), (fun _ _ => none),
    (fun a => if a = b then L else if a = cs then 7 else if a = wi then 12 else 0), (fun a => if a = b then xs else if a = cs then csv else if a = wi then wiv else fun _ => 0), (fun _ _ => 0), (fun _ _ => none),
    (fun j => match j with
      | 0 => some cs
      | 1 => some wi
      | 2 => some no
      | 3 => some de
      | 5 => some mi
      | _ => none))
def PureOK (M : Mem) (b : Nat) : Prop := ∃ Me, rn PP 231 0 (ent [pR (some b)] 4) [] M = some (some (pI 1), Me) ∧ mT Me - mT M ≤ 600000 ∧ mS Me - mS M ≤ 7302250
/-- what is known of the start's addresses -/
def Apart (h b cs wi no de : Nat) : Prop := b < h ∧ cs < h ∧ wi < h ∧ no < h ∧ de < h ∧ b ≠ cs ∧ b ≠ wi ∧ cs ≠ wi ∧ no ≠ b ∧ no ≠ cs ∧ no ≠ wi ∧ de ≠ b ∧ de ≠ cs ∧ de ≠ wi ∧ de ≠ no
theorem T_lt {ty : FieldType} {t N : Nat} {f : Nat → Value} {A : Nat → Prop} {U : State} {H : Heap} (h : va_T ty t N f A U H) : t < H.size := by
  obtain ⟨cell, h1, -⟩ := h
  exact (Array.getElem?_eq_some_iff.mp h1).1
theorem T_ne {ty ty' : FieldType} {t t' N N' : Nat} {f f' : Nat → Value} {A A' : Nat → Prop} {U : State} {H : Heap} (h : va_T ty t N f A U H) (g : va_T ty' t' N' f' A' U H) (hne : ty ≠ ty' ∨ Int32.ofNat N ≠ Int32.ofNat N') : t ≠ t' := by
  intro e
  subst e
  obtain ⟨cell, h1, h2, h3, h4, h5, -⟩ := h
  obtain ⟨cell', g1, g2, g3, g4, g5, -⟩ := g
  rw [h1] at g1
  cases g1
  rcases hne with hne | hne
  · obtain ⟨-, k, k1, c1, k2⟩ := h2
    obtain ⟨-, k', k1', c1', k2'⟩ := g2
    rw [k1] at k1'
    cases k1'
    rw [k2] at k2'
    cases k2'
    exact hne rfl
  · exact hne (h5.symm.trans g5)
theorem arrC {args : Array Value} {s : State} {ty : FieldType} (h : (Cond.arrayClass ty).before args s = true) (hno : ∀ C, ty ≠ .object C) : ∃ cA, ArrOfT s cA ty ∧ va_RA s cA ty := by
  obtain ⟨cA, kA, comp, h1, h2, h3⟩ := Cond.arrayClass_spec h
  refine ⟨cA, fun n z => ⟨fun k h => (by cases h), kA, h2, comp, h3⟩, ?_⟩
  cases ty <;> first | exact h1 | (rename_i C; exact absurd rfl (hno C))
theorem arrO {s : State} {C : String} (h : va_AO C s) : ∃ cA, ArrOfT s cA (.object C) ∧ va_RA s cA (.object C) := by
  obtain ⟨comp, cA, kA, h1, -, h2, h3, h4⟩ := Cond.arrayOver_spec (va_AO.use (A := #[]) h)
  exact ⟨cA, fun n z => ⟨fun k h => (by cases h), kA, h2, comp, h3⟩, kA, comp, h2, h3, h1, h4⟩
theorem elT {args : Array Value} {s : State} {tm : Term} {vals : List Int32} {N : Nat} (hN : vals.length = N) (hel : ∀ j : Nat, j < N → (Term.elem tm (.int (Int32.ofNat j))).eval args s none [] s = some (.int (vals.getD j 0))) : ∀ j : Nat, j < N → (Term.elem tm (.int (Int32.ofNat j))).eval args s none [] s = some (.int (vals.getD j 0)) := hel
theorem mi231 : mB 231 = code ∧ mL 231 = 4 ∧ mR 231 = ret ∧ cnm (mC 231) = R_law ∧ rF 231 ≤ 15 ∧ rL 231 ≤ 606 ∧ mK 231 = 0 := ⟨rfl, rfl, rfl, rfl, by decide +kernel, by decide +kernel, rfl⟩
