/-! SOUNDNESS, one instruction -/
theorem brT {pc len : Nat} {off : Int} (h : brOk pc off len = true) : len = 3 ∧ (pc : Int) + off = ((tgt pc off : Nat) : Int) := by
  obtain ⟨h1, h2⟩ := and2 h
  have h1 := of_decide_eq_true h1
  refine ⟨beqN h2, ?_⟩
  unfold tgt
  omega
theorem rd_some {α : Type} {x : Option Nat} {c : Nat} {M : Mem} {f : Nat → Option α} {r : α} (h : rd x c M f = some r) : ∃ a, x = some a ∧ kd M a = c ∧ f a = some r := by
  cases x with
  | none => cases h
  | some a =>
    have h : (if kd M a = c then f a else none) = some r := h
    split at h
    · rename_i hk; exact ⟨a, rfl, hk, h⟩
    · cases h
theorem ix_some {α : Type} {x : Option Nat} {c d : Nat} {i : Int32} {M : Mem} {f : Nat → Nat → Option α} {r : α} (h : ix c d x i M f = some r) : ∃ a, x = some a ∧ (kd M a = c ∨ kd M a = d) ∧ ¬ (i < 0 ∨ ln M a ≤ i.toNatClampNeg) ∧ f a i.toNatClampNeg = some r := by
  cases x with
  | none => cases h
  | some a =>
    have h : (if (kd M a = c ∨ kd M a = d) ∧ ¬ (i < 0 ∨ ln M a ≤ i.toNatClampNeg) then f a i.toNatClampNeg else none) = some r := h
    split at h
    · rename_i hk; exact ⟨a, rfl, hk.1, hk.2, h⟩
    · cases h
theorem al_some {α : Type} {x : Option Nat} {M : Mem} {f : Nat → Option α} {r : α} (h : al x M f = some r) : ∃ a, x = some a ∧ (20 ≤ kd M a ∧ kd M a < 40) ∧ f a = some r := by
  cases x with
  | none => cases h
  | some a =>
    have h : (if 20 ≤ kd M a ∧ kd M a < 40 then f a else none) = some r := h
    split at h
    · rename_i hk; exact ⟨a, rfl, hk, h⟩
    · cases h
theorem ck_some {α : Type} {x : Option Nat} {c : Nat} {M : Mem} {f : Option α} {r : α} (h : ck x c M f = some r) : (∀ a, x = some a → kd M a = c) ∧ f = some r := by
  cases x with
  | none => exact ⟨fun a q => (nomatch q), h⟩
  | some a =>
    have h : (if kd M a = c then f else none) = some r := h
    split at h
    · rename_i hk; exact ⟨fun b hb => by cases hb; exact hk, h⟩
    · cases h
theorem nn_some {α : Type} {x : Option Nat} {f : Option α} {r : α} (h : nn x f = some r) : ∃ a, x = some a ∧ f = some r := by
  cases x with
  | none => cases h
  | some a => exact ⟨a, rfl, h⟩
theorem zo_some {α : Type} {x : Int32} {f : Option α} {r : α} (h : zo x f = some r) : (x = 0 ∨ x = 1) ∧ f = some r := by
  unfold zo at h
  split at h
  · rename_i hk; exact ⟨hk, h⟩
  · cases h
theorem gd_some {α : Type} {q : Prop} {dq : Decidable q} {f : Option α} {r : α} (h : gd q f = some r) : q ∧ f = some r := by
  unfold gd at h
  split at h
  · rename_i hk; exact ⟨hk, h⟩
  · cases h
theorem bq_some {α : Type} {b : Bool} {f : Option α} {r : α} (h : bq b f = some r) : b = true ∧ f = some r := by
  cases b with
  | false => cases h
  | true => exact ⟨rfl, h⟩
theorem clK_some {rk : Nat} {o : Option Rt} {pc : Nat} {ls : List (Option PV)} {st : List PV} {k : Kt} {r : Rt} (h : clK rk o pc ls st k = some r) : ∃ v M1, o = some (v, M1) ∧ k pc ls (v.toList ++ st) M1 = some r := by
  rcases o with _ | ⟨_ | x | x | x | x | x, M1⟩ <;> rcases rk with _ | _ | _ | n <;> first | (cases h; done) | exact ⟨_, M1, rfl, h⟩
theorem sw_some {x : Int32} {pc : Nat} {ls : List (Option PV)} {st : List PV} {M : Mem} {k : Kt} {d : Int} {r : Rt} : ∀ (os : List Int) (lo : Int), -2147483648 ≤ lo → lo + os.length ≤ 2147483648 → swK x pc ls st M k d lo os = some r →
    (∃ i o, i < os.length ∧ x.toInt = lo + i ∧ os[i]? = some o ∧ k (tgt pc o) ls st M = some r) ∨ ((x.toInt < lo ∨ lo + os.length - 1 < x.toInt) ∧ k (tgt pc d) ls st M = some r) := by
  intro os
  induction os with
  | nil =>
    intro lo h1 h2 h
    refine Or.inr ⟨?_, h⟩
    simp only [List.length_nil, Int.natCast_zero]
    omega
  | cons o t ih =>
    intro lo h1 h2 h
    have h : (if x = Int32.ofInt lo then k (tgt pc o) ls st M else swK x pc ls st M k d (lo + 1) t) = some r := h
    have hlen : ((o :: t).length : Int) = (t.length : Int) + 1 := by simp
    have hto : (Int32.ofInt lo).toInt = lo := Int32.toInt_ofInt_of_le (by omega) (by omega)
    split at h
    · rename_i he
      refine Or.inl ⟨0, o, by simp, ?_, rfl, h⟩
      rw [he, hto]
      simp
    · rename_i he
      have hne : x.toInt ≠ lo := fun q => he (Int32.toInt_inj.mp (q.trans hto.symm))
      rcases ih (lo + 1) (by omega) (by omega) h with ⟨i, o', g1, g2, g3, g4⟩ | ⟨g1, g2⟩
      · exact Or.inl ⟨i + 1, o', by simp only [List.length_cons]; omega, by rw [g2]; simp only [Int.natCast_add, Int.natCast_one]; omega, g3, g4⟩
      · exact Or.inr ⟨by omega, g2⟩
theorem lg_len : ∀ as : List PV, (lg_sl (as.map pv)).length = wds as
  | [] => rfl
  | v :: t => by
    have ih := lg_len t
    have e : lg_sl ((v :: t).map pv) = (if (pv v).category = 2 then [Slot.val (pv v), .second] else [.val (pv v)]) ++ lg_sl (t.map pv) := by simp [lg_sl]
    rw [e, List.length_append, ih, pv_cat]
    show _ = wd v + wds t
    congr 1
    rcases v with x | x | x | x | x <;> simp [wd]
theorem inv_st {C : Nat → Nat → List PV → Mem → Option Rt} {k : Kt} {pc len z na rk mx : Nat} {ls : List (Option PV)} {st : List PV} {M : Mem} {r : Rt} (h : invK C k pc len [z, na, rk, mx, 100] ls st M = some r) :
    ∃ as st', popN na st [] = some (as, st') ∧ wds st' ≤ 8 ∧ wds as ≤ mx ∧ clK rk (C z mx as M) (pc + len) ls st' k = some r := by
  have h : (match popN na st [] with | some (as, st) => bq (Nat.ble (wds st) 8) (bq (Nat.ble (wds as) mx) (clK rk (C z mx as M) (pc + len) ls st k)) | none => none) = some r := h
  cases hp : popN na st [] with
  | none => rw [hp] at h; cases h
  | some q =>
    rw [hp] at h
    obtain ⟨as, st'⟩ := q
    obtain ⟨h1, h⟩ := bq_some h
    obtain ⟨h2, h⟩ := bq_some h
    exact ⟨as, st', rfl, Nat.le_of_ble_eq_true h1, Nat.le_of_ble_eq_true h2, h⟩
theorem inv_ob {C : Nat → Nat → List PV → Mem → Option Rt} {k : Kt} {pc len z na rk mx rc : Nat} {ls : List (Option PV)} {st : List PV} {M : Mem} {r : Rt} (hrc : rc ≤ 12) (h : invK C k pc len [z, na, rk, mx, rc] ls st M = some r) :
    ∃ a as st', popN na st [] = some (pR (some a) :: as, st') ∧ wds st' ≤ 8 ∧ 1 + wds as ≤ mx ∧ kd M a = rc ∧ clK rk (C z mx (pR (some a) :: as) M) (pc + len) ls st' k = some r := by
  have h : (match popN na st [] with | some (.inr (.inr (.inl x)) :: as, st) => bq (Nat.ble (wds st) 8) (bq (Nat.ble (1 + wds as) mx) (rd x rc M fun a => clK rk (C z mx (pR (some a) :: as) M) (pc + len) ls st k)) | _ => none) = some r := by
    rcases (show rc = 0 ∨ rc = 1 ∨ rc = 2 ∨ rc = 3 ∨ rc = 4 ∨ rc = 5 ∨ rc = 6 ∨ rc = 7 ∨ rc = 8 ∨ rc = 9 ∨ rc = 10 ∨ rc = 11 ∨ rc = 12 by omega) with q | q | q | q | q | q | q | q | q | q | q | q | q <;> subst q <;> exact h
  cases hp : popN na st [] with
  | none => rw [hp] at h; cases h
  | some q =>
    rw [hp] at h
    rcases q with ⟨_ | ⟨x | x | x | x | x, as⟩, st'⟩ <;> first | (cases h; done) | skip
    obtain ⟨h1, h⟩ := bq_some h
    obtain ⟨h2, h⟩ := bq_some h
    obtain ⟨a, ha, hk, h9⟩ := rd_some h
    subst ha
    exact ⟨a, as, st', rfl, Nat.le_of_ble_eq_true h1, Nat.le_of_ble_eq_true h2, hk, h9⟩
theorem fv_I {M : Mem} {c a k : Nat} (h : fS c k = 0 ∨ fS c k = 3) : fv M c a k = .int (gI M (64 * c + k) a) := by
  unfold fv
  rcases h with h | h <;> rw [h] <;> rfl
theorem fv_J {M : Mem} {c a k : Nat} (h : fS c k = 1) : fv M c a k = .long (gJ M (64 * c + k) a) := by
  unfold fv
  rw [h]
  rfl
theorem fv_R {M : Mem} {c a k : Nat} (h : fS c k = 2) : fv M c a k = va_rf (gR M (64 * c + k) a) := by
  unfold fv
  rw [h]
  rfl
theorem ac_int : Cond.arrayClass .int ∈ lw_tbl ∧ Cond.arrayClass .long ∈ lw_tbl ∧ Cond.arrayClass .boolean ∈ lw_tbl := by decide +kernel
theorem ltN {a b : Nat} (h : Nat.blt a b = true) : a < b := Nat.le_of_ble_eq_true h
theorem cb_spec {y z na rk mx th i : Nat} (h : okI.cbOk y z na rk mx th i = true) : mx = mL z ∧ rk = okI.rkOf (mR z) ∧ (parseMethodDescriptor (mN z).desc).map (fun d => d.parameters.length + th) = some na ∧ rF z + 1 ≤ rF y ∧ 19 + mx + rL z ≤ rL y ∧ ∃ r, r ∈ mlk ∧ r.1 = mC y ∧ r.2.1 = i ∧ r.2.2.1 = z := by
  unfold okI.cbOk at h
  obtain ⟨h, h6⟩ := and2 h
  obtain ⟨h, h5⟩ := and2 h
  obtain ⟨h, h4⟩ := and2 h
  obtain ⟨h, h3⟩ := and2 h
  obtain ⟨h1, h2⟩ := and2 h
  obtain ⟨r, hr1, hr2⟩ := any2 h6
  obtain ⟨hr2, q3⟩ := and2 hr2
  obtain ⟨q1, q2⟩ := and2 hr2
  exact ⟨beqN h1, beqN h2, of_decide_eq_true h3, Nat.le_of_ble_eq_true h4, Nat.le_of_ble_eq_true h5, r, hr1, beqN q1, beqN q2, beqN q3⟩
theorem sp_spec {y z i : Nat} (h : okI.spOk y z i = true) : 1 ≤ rF y ∧ 60 ≤ rL y ∧ Cond.methodLink (cnm (mC y)) i (spN z) ∈ lw_tbl := by
  unfold okI.spOk at h
  obtain ⟨h, h3⟩ := and2 h
  obtain ⟨h1, h2⟩ := and2 h
  obtain ⟨r, hr1, hr2⟩ := any2 h3
  obtain ⟨hr2, q3⟩ := and2 hr2
  obtain ⟨q1, q2⟩ := and2 hr2
  have hw := plk_in hr1
  rw [beqN q1, beqN q2, beqN q3] at hw
  exact ⟨Nat.le_of_ble_eq_true h1, Nat.le_of_ble_eq_true h2, hw⟩
theorem rk_none {r : Option FieldType} (h : okI.rkOf r = 0) : r = none := by
  cases r with
  | none => rfl
  | some t => cases t <;> cases h
theorem or6 {a b c d e f : Bool} (h : (a || b || c || d || e || f) = true) : a = true ∨ b = true ∨ c = true ∨ d = true ∨ e = true ∨ f = true := by
  cases a <;> cases b <;> cases c <;> cases d <;> cases e <;> cases f <;> simp_all
