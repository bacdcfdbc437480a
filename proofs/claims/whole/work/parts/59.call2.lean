/-! calls: words of the methods that are called -/
theorem good1 {w : Cond} (h : w ∈ lw_tbl) (g : reqK w = true) : w ∈ LG ∧ ((w.onTables && w.keeps) = true ∨ ∃ ty, w = .arrayClass ty) := ⟨LG_in h g, (LG_good w (LG_in h g)).2⟩
theorem LG_goodL : GoodIn LG LG := fun w h => good1 (LG_of h).1 (LG_of h).2
def Mw (z : Nat) : Prop := (if mK z = 0 then Cond.static (mN z) else Cond.instanceMethod (mN z)) ∈ lw_tbl ∧ (mK z ≠ 1 ∨ Cond.selects (mN z).cls (mN z) (mN z) ∈ lw_tbl) ∧ Cond.initialized (mN z).cls ∈ lw_tbl ∧ (mN z).cls = cnm (mC z) ∧ (mN z).cls ≠ "java/lang/invoke/MethodHandle" ∧ (mN z).cls ≠ "java/lang/invoke/VarHandle" ∧ (mK z ≠ 2 ∨ (mN z).name = "<init>") ∧ Cond.code (mN z) (mB z) (mL z) (mR z) ∈ lw_tbl
theorem mw_all {z : Nat} (hz : z < 231) : Mw z := by
  have h : z ∈ mpl.map (fun r => r.1) := by rw [mpl_all]; exact List.mem_range.mpr hz
  obtain ⟨r, hr, rfl⟩ := List.mem_map.mp h
  have hB := List.all_eq_true.mp mpl_ok r hr
  unfold mplB at hB
  obtain ⟨hB, b7⟩ := and2 hB
  obtain ⟨hB, b6⟩ := and2 hB
  obtain ⟨hB, b5⟩ := and2 hB
  obtain ⟨hB, b4⟩ := and2 hB
  obtain ⟨hB, b3⟩ := and2 hB
  obtain ⟨b1, b2⟩ := and2 hB
  refine ⟨in_of (of_decide_eq_true b1), ?_, in_of (of_decide_eq_true b3), of_decide_eq_true b4, of_decide_eq_true b5, of_decide_eq_true b6, ?_, mcd_all231 _ hz⟩
  · rcases (Bool.or_eq_true _ _ ▸ b2 : _ ∨ _) with b2 | b2
    · exact Or.inl (of_decide_eq_true b2)
    · exact Or.inr (in_of (of_decide_eq_true b2))
  · rcases (Bool.or_eq_true _ _ ▸ b7 : _ ∨ _) with b7 | b7
    · exact Or.inl (of_decide_eq_true b7)
    · exact Or.inr (of_decide_eq_true b7)
theorem mlk_in {r : Nat × Nat × Nat × Nat} (h : r ∈ mlk) : Cond.methodLink (cnm r.1) r.2.1 (mN r.2.2.1) ∈ lw_tbl := in_of (of_decide_eq_true (List.all_eq_true.mp mlk_ok r h))
theorem ws_good {z : Nat} (hz : z < 231) : GoodIn LG (wsz z) := by
  intro w hw
  rcases List.mem_cons.mp hw with rfl | h
  · exact good1 (mw_all hz).2.2.2.2.2.2.2 rfl
  · exact LG_goodL w h
theorem wds_sum : ∀ st : List PV, ((st.map pv).map fun v => v.category).sum = wds st
  | [] => rfl
  | v :: t => by
    show (pv v).category + ((t.map pv).map fun v => v.category).sum = wd v + wds t
    rw [pv_cat, wds_sum t]
theorem popN_spec : ∀ (n : Nat) (st acc as rest : List PV), popN n st acc = some (as, rest) → ∃ xs, as = xs ++ acc ∧ st = xs.reverse ++ rest ∧ xs.length = n := by
  intro n
  induction n with
  | zero => intro st acc as rest h; cases h; exact ⟨[], rfl, rfl, rfl⟩
  | succ n ih =>
    intro st acc as rest h
    cases st with
    | nil => cases h
    | cons v t =>
      obtain ⟨xs, h1, h2, h3⟩ := ih t (v :: acc) as rest h
      refine ⟨xs ++ [v], ?_, ?_, ?_⟩
      · rw [h1]; simp
      · rw [h2]; simp
      · simp [h3]
