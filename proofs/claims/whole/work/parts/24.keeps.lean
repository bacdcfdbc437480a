/-! EVERY RUN keeps the pure invariants -/
def Pr (base : Nat) (M : Mem) (F : Kp → Option Rt) : Prop := ∀ κ, (∀ q r, ask κ q = some r → Kp2 base q.2.2.2.2 r.2) → ∀ r, F κ = some r → Kp2 base M r.2
section PR
variable {base : Nat} {M : Mem}
theorem pr_none : Pr base M (fun _ => none) := fun _ _ _ h => by cases h
theorem pr_ret (v : Option PV) : Pr base M (fun _ => some (v, M)) := fun _ _ _ h => by cases h; exact Kp2.rf base M
theorem pr_to {M1 : Mem} {F : Kp → Option Rt} (h : Kp2 base M M1) (g : Pr base M1 F) : Pr base M F := fun κ hκ r hr => h.tr (g κ hκ r hr)
theorem pr_app (y pc : Nat) (ls : List (Option PV)) (st : List PV) : Pr base M (fun κ => κ y pc ls st M) := fun _ hκ r hr => hκ (y, pc, ls, st, M) r hr
theorem pr_ite {p : Prop} [Decidable p] {F G : Kp → Option Rt} (hF : p → Pr base M F) (hG : ¬ p → Pr base M G) : Pr base M (fun κ => if p then F κ else G κ) := by
  by_cases h : p
  · simpa only [if_pos h] using hF h
  · simpa only [if_neg h] using hG h
theorem pr_itd {p : Prop} {d : Decidable p} {F G : Kp → Option Rt} (hF : p → Pr base M F) (hG : ¬ p → Pr base M G) : Pr base M (fun κ => @ite _ p d (F κ) (G κ)) := pr_ite hF hG
theorem pr_rd {r : Option Nat} {c : Nat} {F : Nat → Kp → Option Rt} (h : ∀ a, kd M a = c → Pr base M (F a)) : Pr base M (fun κ => rd r c M fun a => F a κ) := by
  cases r with
  | none => exact pr_none
  | some a => exact pr_ite (h a) (fun _ => pr_none)
theorem pr_ix {c d : Nat} {r : Option Nat} {i : Int32} {F : Nat → Nat → Kp → Option Rt} (h : ∀ a j, (kd M a = c ∨ kd M a = d) → Pr base M (F a j)) : Pr base M (fun κ => ix c d r i M fun a j => F a j κ) := by
  cases r with
  | none => exact pr_none
  | some a => exact pr_ite (fun g => h a _ g.1) (fun _ => pr_none)
theorem pr_al {r : Option Nat} {F : Nat → Kp → Option Rt} (h : ∀ a, Pr base M (F a)) : Pr base M (fun κ => al r M fun a => F a κ) := by
  cases r with
  | none => exact pr_none
  | some a => exact pr_ite (fun _ => h a) (fun _ => pr_none)
theorem pr_ck {r : Option Nat} {c : Nat} {F : Kp → Option Rt} (h : Pr base M F) : Pr base M (fun κ => ck r c M (F κ)) := by
  cases r with
  | none => exact h
  | some a => exact pr_ite (fun _ => h) (fun _ => pr_none)
theorem pr_nn {r : Option Nat} {F : Kp → Option Rt} (h : Pr base M F) : Pr base M (fun κ => nn r (F κ)) := by
  cases r with
  | none => exact pr_none
  | some a => exact h
theorem pr_zo {x : Int32} {F : Kp → Option Rt} (h : Pr base M F) : Pr base M (fun κ => zo x (F κ)) := pr_ite (fun _ => h) (fun _ => pr_none)
theorem pr_gd {p : Prop} [Decidable p] {F : Kp → Option Rt} (h : Pr base M F) : Pr base M (fun κ => gd p (F κ)) := pr_ite (fun _ => h) (fun _ => pr_none)
theorem pr_bq {b : Bool} {F : Kp → Option Rt} (h : b = true → Pr base M F) : Pr base M (fun κ => bq b (F κ)) := by
  cases b with
  | false => exact pr_none
  | true => exact h rfl
theorem pr_cl {O : Kp → Option Rt} (hO : Pr base M O) {G : Rt → Kp → Option Rt} (hG : ∀ x, Pr base x.2 (G x)) : Pr base M (fun κ => match O κ with | some x => G x κ | none => none) := by
  intro κ hκ r h
  cases ho : O κ with
  | none => simp [ho] at h
  | some x =>
    simp only [ho] at h
    exact (hO κ hκ x ho).tr (hG x κ hκ r h)
theorem pr_clK (rk : Nat) {O : Kp → Option Rt} (hO : Pr base M O) (y pc : Nat) (ls : List (Option PV)) (st : List PV) : Pr base M (fun κ => clK rk (O κ) pc ls st (κ y)) := by
  have := pr_cl hO (G := fun x κ => clK rk (some x) pc ls st (κ y)) (fun x => by
    rcases rk with _ | _ | _ | n <;> rcases x with ⟨_ | x | x | x | x | x, M1⟩ <;> first | exact pr_app y pc _ _ | exact pr_none)
  refine cast (congrArg (Pr base M) (funext fun κ => ?_)) this
  cases O κ with
  | none => rcases rk with _ | _ | _ | n <;> rfl
  | some x => rfl
theorem pr_sw (y : Nat) (x : Int32) (pc : Nat) (ls : List (Option PV)) (st : List PV) (d : Int) (os : List Int) : ∀ lo : Int, Pr base M (fun κ => swK x pc ls st M (κ y) d lo os) := by
  induction os with
  | nil => intro lo; exact pr_app y _ ls st
  | cons o t ih => intro lo; exact pr_ite (fun _ => pr_app y _ ls st) (fun _ => ih (lo + 1))
theorem pr_mt (y pc : Nat) (o : Option (List (Option PV) × List PV)) : Pr base M (fun κ => match o with | some p => κ y pc p.1 p.2 M | none => none) := by
  cases o with
  | none => exact pr_none
  | some p => exact pr_app y pc p.1 p.2
theorem pr_inv (y pc len : Nat) (ns : List Nat) (ls : List (Option PV)) (st : List PV) : Pr base M (fun κ => invK (fun z mx as M => κ z 0 (ent as mx) [] M) (κ y) pc len ns ls st M) := by
  unfold invK
  split
  · split
    · exact pr_bq fun _ => pr_bq fun _ => pr_clK _ (pr_app _ _ _ _) y _ _ _
    · exact pr_none
  · split
    · exact pr_bq fun _ => pr_bq fun _ => pr_rd fun a _ => pr_clK _ (pr_app _ _ _ _) y _ _ _
    · exact pr_none
  all_goals try (split <;> try exact pr_none)
  all_goals try exact pr_none
  · exact pr_bq fun _ => pr_nn (pr_app y _ _ _)
  · rename_i a0 a1 yy a3 x a5
    refine pr_bq fun _ => ?_
    rcases x with _ | a <;> rcases yy with _ | b <;> first | exact pr_none | skip
    exact pr_ite (fun h => pr_to (k_uJ base M b _ (by omega)) (pr_app y _ _ _)) (fun _ => pr_none)
  · rename_i a0 a1 yy a3 x a5
    refine pr_bq fun _ => ?_
    rcases x with _ | a <;> rcases yy with _ | b <;> first | exact pr_none | skip
    refine pr_ite (fun h => pr_to (k_uR base M b _ (by omega) fun g hb j z hz => ?_) (pr_app y _ _ _)) (fun _ => pr_none)
    unfold va_cpy at hz
    split at hz
    · exact g.2.2 a h.1 _ _ hz
    · exact g.2.2 b hb _ _ hz
  · exact pr_bq fun _ => pr_rd fun a _ => pr_app y _ _ _
  · rename_i x _
    refine pr_bq fun _ => ?_
    rcases x with _ | a
    · exact pr_none
    · refine pr_ite (fun h => pr_to ((k_nA base M 21 (ln M a) (by omega) (by omega)).tr (k_uJ base _ (mT M) _ ?_)) (pr_app y _ _ _)) (fun _ => pr_none)
      show (if mT M = mT M then 21 else _) ≤ 24
      rw [if_pos rfl]
      omega
  · exact pr_bq fun _ => pr_gd (pr_app y _ _ _)
  · exact pr_bq fun _ => pr_gd (pr_app y _ _ _)
  · exact pr_bq fun _ => pr_app y _ _ _
  · exact pr_bq fun _ => pr_app y _ _ _
theorem pr_step (y : Nat) (ins : Instr) (len : Nat) (ns : List Nat) (cst : PV) (pc : Nat) (ls : List (Option PV)) (st : List PV) : Pr base M (fun κ => stepK (fun z mx as M => κ z 0 (ent as mx) [] M) (κ y) ins len ns cst pc ls st M) := by
  unfold stepK
  split
  all_goals try exact pr_inv y pc len ns ls st
  all_goals try exact pr_mt y (pc + len) _
  all_goals try (split <;> try exact pr_none)
  all_goals try split
  all_goals first
    | exact pr_none
    | exact pr_ret _
    | exact pr_app y _ _ _
    | exact pr_ite (fun _ => pr_app y _ _ _) (fun _ => pr_app y _ _ _)
    | exact pr_gd (pr_app y _ _ _)
    | exact pr_rd fun a _ => pr_app y _ _ _
    | exact pr_rd fun a _ => pr_to (k_sI base M _ a _) (pr_app y _ _ _)
    | exact pr_rd fun a _ => pr_to (k_sJ base M _ a _) (pr_app y _ _ _)
    | exact pr_rd fun a _ => pr_to (k_sF base M _ a _) (pr_app y _ _ _)
    | exact pr_rd fun a _ => pr_zo (pr_to (k_sI base M _ a _) (pr_app y _ _ _))
    | exact pr_ix fun a j _ => pr_app y _ _ _
    | exact pr_ix fun a j h => pr_to (k_uI base M a _ (by omega)) (pr_app y _ _ _)
    | exact pr_ix fun a j h => pr_to (k_uJ base M a _ (by omega)) (pr_app y _ _ _)
    | exact pr_ix fun a j h => pr_zo (pr_to (k_uI base M a _ (by omega)) (pr_app y _ _ _))
    | exact pr_al fun a => pr_app y _ _ _
    | exact pr_ck (pr_app y _ _ _)
    | exact pr_sw y _ pc ls _ _ _ _
    | exact pr_zo (pr_ret _)
    | exact pr_bq fun h => pr_to (k_nO base M _ _ (Nat.le_of_ble_eq_true h)) (pr_app y _ _ _)
    | exact pr_bq fun h => pr_bq fun h2 => pr_gd (pr_to (k_nA base M _ _ (Nat.le_of_ble_eq_true h) (Nat.le_of_ble_eq_true h2)) (pr_app y _ _ _))
    | skip
  · refine pr_ix fun a j h => pr_itd (fun g => pr_to (k_uR base M a _ (by omega) fun hP ha i z hz => ?_) (pr_app y _ _ _)) (fun _ => pr_none)
    unfold up1 at hz
    split at hz
    · subst hz
      rcases g with g | g
      · exact g.2
      · omega
    · exact hP.2.2 a ha _ _ hz
end PR
theorem rnF_kp (base : Nat) (P : Prg) : ∀ n q r, ask (rnF P n) q = some r → Kp2 base q.2.2.2.2 r.2
  | 0 => fun q r h => by cases h
  | n + 1 => by
    intro q r h
    obtain ⟨y, pc, ls, st, M⟩ := q
    have h : one P (rnF P n) y pc ls st M = some r := h
    unfold one at h
    cases he : P y pc with
    | none => rw [he] at h; cases h
    | some e =>
      rw [he] at h
      exact pr_step y e.1 e.2.1 e.2.2.1 e.2.2.2.1 pc _ st (rnF P n) (rnF_kp base P n) r h
