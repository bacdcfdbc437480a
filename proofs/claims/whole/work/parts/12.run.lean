/-! THE RUN: fuel, its limit, and the equation rn = one step of rn -/
abbrev Kp : Type := Nat → Kt
def one (P : Prg) (κ : Kp) (y pc : Nat) (ls : List (Option PV)) (st : List PV) (M : Mem) : Option Rt := match P y pc with
  | some e => stepK (fun z mx as M => κ z 0 (ent as mx) [] M) (κ y) e.1 e.2.1 e.2.2.1 e.2.2.2.1 pc (clrs e.2.2.2.2 ls) st M
  | none => none
def rnF (P : Prg) : Nat → Kp
  | 0 => fun _ _ _ _ _ => none
  | n + 1 => one P (rnF P n)
abbrev Qy : Type := Nat × Nat × List (Option PV) × List PV × Mem
def ask (κ : Kp) (q : Qy) : Option Rt := κ q.1 q.2.1 q.2.2.1 q.2.2.2.1 q.2.2.2.2
/-- a functional that asks finitely often -/
def Sup (F : Kp → Option Rt) : Prop := ∀ κ r, F κ = some r → ∃ qs : List (Qy × Rt), (∀ q ∈ qs, ask κ q.1 = some q.2) ∧ ∀ κ', (∀ q ∈ qs, ask κ' q.1 = some q.2) → F κ' = some r
theorem sup_const (x : Option Rt) : Sup (fun _ => x) := fun _ _ h => ⟨[], fun _ h => absurd h List.not_mem_nil, fun _ _ => h⟩
theorem sup_app (y pc : Nat) (ls : List (Option PV)) (st : List PV) (M : Mem) : Sup (fun κ => κ y pc ls st M) := fun κ r h =>
  ⟨[((y, pc, ls, st, M), r)], fun q hq => by cases List.mem_singleton.mp hq; exact h, fun κ' h' => h' _ (List.mem_singleton.mpr rfl)⟩
theorem sup_ite {p : Prop} [Decidable p] {F G : Kp → Option Rt} (hF : Sup F) (hG : Sup G) : Sup (fun κ => if p then F κ else G κ) := by
  by_cases h : p
  · simpa only [if_pos h] using hF
  · simpa only [if_neg h] using hG
theorem sup_itd {p : Prop} {d : Decidable p} {F G : Kp → Option Rt} (hF : Sup F) (hG : Sup G) : Sup (fun κ => @ite _ p d (F κ) (G κ)) := sup_ite hF hG
theorem sup_rd {r : Option Nat} {c : Nat} {M : Mem} {F : Nat → Kp → Option Rt} (h : ∀ a, Sup (F a)) : Sup (fun κ => rd r c M fun a => F a κ) := by
  cases r with
  | none => exact sup_const none
  | some a => exact sup_ite (h a) (sup_const none)
theorem sup_ix {c d : Nat} {r : Option Nat} {i : Int32} {M : Mem} {F : Nat → Nat → Kp → Option Rt} (h : ∀ a j, Sup (F a j)) : Sup (fun κ => ix c d r i M fun a j => F a j κ) := by
  cases r with
  | none => exact sup_const none
  | some a => exact sup_ite (h a _) (sup_const none)
theorem sup_al {r : Option Nat} {M : Mem} {F : Nat → Kp → Option Rt} (h : ∀ a, Sup (F a)) : Sup (fun κ => al r M fun a => F a κ) := by
  cases r with
  | none => exact sup_const none
  | some a => exact sup_ite (h a) (sup_const none)
theorem sup_ck {r : Option Nat} {c : Nat} {M : Mem} {F : Kp → Option Rt} (h : Sup F) : Sup (fun κ => ck r c M (F κ)) := by
  cases r with
  | none => exact h
  | some a => exact sup_ite h (sup_const none)
theorem sup_zo {x : Int32} {F : Kp → Option Rt} (h : Sup F) : Sup (fun κ => zo x (F κ)) := sup_ite h (sup_const none)
theorem sup_gd {p : Prop} [Decidable p] {F : Kp → Option Rt} (h : Sup F) : Sup (fun κ => gd p (F κ)) := sup_ite h (sup_const none)
theorem sup_bq {b : Bool} {F : Kp → Option Rt} (h : Sup F) : Sup (fun κ => bq b (F κ)) := by
  cases b with
  | false => exact sup_const none
  | true => exact h
theorem sup_two {O : Kp → Option Rt} (hO : Sup O) {G : Rt → Kp → Option Rt} (hG : ∀ x, Sup (G x)) : Sup (fun κ => match O κ with | some x => G x κ | none => none) := by
  intro κ r h
  cases ho : O κ with
  | none => simp [ho] at h
  | some x =>
    simp only [ho] at h
    obtain ⟨q1, a1, b1⟩ := hO κ x ho
    obtain ⟨q2, a2, b2⟩ := hG x κ r h
    refine ⟨q1 ++ q2, fun q hq => (List.mem_append.mp hq).elim (a1 q) (a2 q), fun κ' h' => ?_⟩
    simp only [b1 κ' (fun q hq => h' q (List.mem_append_left _ hq))]
    exact b2 κ' (fun q hq => h' q (List.mem_append_right _ hq))
theorem sup_clV {O : Kp → Option Rt} (hO : Sup O) {F : Mem → Kp → Option Rt} (h : ∀ M, Sup (F M)) : Sup (fun κ => clV (O κ) fun M => F M κ) := by
  have := sup_two hO (G := fun x κ => clV (some x) fun M => F M κ) (fun x => by rcases x with ⟨_ | x, M⟩; exact h M; exact sup_const none)
  refine cast (congrArg Sup (funext fun κ => ?_)) this
  cases O κ <;> rfl
theorem sup_clI {O : Kp → Option Rt} (hO : Sup O) {F : Int32 → Mem → Kp → Option Rt} (h : ∀ x M, Sup (F x M)) : Sup (fun κ => clI (O κ) fun x M => F x M κ) := by
  have := sup_two hO (G := fun x κ => clI (some x) fun x M => F x M κ) (fun x => by rcases x with ⟨_ | x | x | x | x | x, M⟩ <;> first | exact h _ M | exact sup_const none)
  refine cast (congrArg Sup (funext fun κ => ?_)) this
  cases O κ <;> rfl
theorem sup_clJ {O : Kp → Option Rt} (hO : Sup O) {F : Int64 → Mem → Kp → Option Rt} (h : ∀ x M, Sup (F x M)) : Sup (fun κ => clJ (O κ) fun x M => F x M κ) := by
  have := sup_two hO (G := fun x κ => clJ (some x) fun x M => F x M κ) (fun x => by rcases x with ⟨_ | x | x | x | x | x, M⟩ <;> first | exact h _ M | exact sup_const none)
  refine cast (congrArg Sup (funext fun κ => ?_)) this
  cases O κ <;> rfl
theorem sup_clR {O : Kp → Option Rt} (hO : Sup O) {F : Option Nat → Mem → Kp → Option Rt} (h : ∀ x M, Sup (F x M)) : Sup (fun κ => clR (O κ) fun x M => F x M κ) := by
  have := sup_two hO (G := fun x κ => clR (some x) fun x M => F x M κ) (fun x => by rcases x with ⟨_ | x | x | x | x | x, M⟩ <;> first | exact h _ M | exact sup_const none)
  refine cast (congrArg Sup (funext fun κ => ?_)) this
  cases O κ <;> rfl
theorem sup_clK (rk : Nat) {O : Kp → Option Rt} (hO : Sup O) (y pc : Nat) (ls : List (Option PV)) (st : List PV) : Sup (fun κ => clK rk (O κ) pc ls st (κ y)) := by
  rcases rk with _ | _ | _ | n
  · exact sup_clV hO fun M => sup_app y pc ls st M
  · exact sup_clI hO fun x M => sup_app y pc ls (pI x :: st) M
  · exact sup_clJ hO fun x M => sup_app y pc ls (pJ x :: st) M
  · exact sup_clR hO fun x M => sup_app y pc ls (pR x :: st) M
theorem sup_sw (y : Nat) (x : Int32) (pc : Nat) (ls : List (Option PV)) (st : List PV) (M : Mem) (d : Int) (os : List Int) : ∀ lo : Int, Sup (fun κ => swK x pc ls st M (κ y) d lo os) := by
  induction os with
  | nil => intro lo; exact sup_app y _ ls st M
  | cons o t ih => intro lo; exact sup_ite (sup_app y _ ls st M) (ih (lo + 1))
theorem sup_mt (y pc : Nat) (M : Mem) (o : Option (List (Option PV) × List PV)) : Sup (fun κ => match o with | some p => κ y pc p.1 p.2 M | none => none) := by
  cases o with
  | none => exact sup_const none
  | some p => exact sup_app y pc p.1 p.2 M
theorem sup_cp {α : Type} {p : Prop} [Decidable p] {M : α} {F : α → Kp → Option Rt} (h : Sup (F M)) : Sup (fun κ => if p then F M κ else none) := sup_ite h (sup_const none)
theorem sup_inv (y pc len : Nat) (ns : List Nat) (ls : List (Option PV)) (st : List PV) (M : Mem) : Sup (fun κ => invK (fun z mx as M => κ z 0 (ent as mx) [] M) (κ y) pc len ns ls st M) := by
  unfold invK
  split
  · split
    · exact sup_bq (sup_bq (sup_clK _ (sup_app _ _ _ _ _) y _ _ _))
    · exact sup_const none
  · split
    · exact sup_bq (sup_bq (sup_rd fun a => sup_clK _ (sup_app _ _ _ _ _) y _ _ _))
    · exact sup_const none
  all_goals try (split <;> try exact sup_const none)
  all_goals try exact sup_const none
  · rename_i x _; cases x with
    | none => exact sup_bq (sup_const none)
    | some a => exact sup_bq (sup_app y _ _ _ _)
  · rename_i a0 a1 yy a3 x a5; exact sup_bq (by rcases x with _ | a <;> rcases yy with _ | b <;> first | exact sup_const none | exact sup_ite (sup_app y _ _ _ _) (sup_const none))
  · rename_i a0 a1 yy a3 x a5; exact sup_bq (by rcases x with _ | a <;> rcases yy with _ | b <;> first | exact sup_const none | exact sup_ite (sup_app y _ _ _ _) (sup_const none))
  · exact sup_bq (sup_rd fun a => sup_app y _ _ _ _)
  · rename_i x _; exact sup_bq (by rcases x with _ | a <;> first | exact sup_const none | exact sup_ite (sup_app y _ _ _ _) (sup_const none))
  · exact sup_bq (sup_gd (sup_app y _ _ _ _))
  · exact sup_bq (sup_gd (sup_app y _ _ _ _))
  · exact sup_bq (sup_app y _ _ _ _)
  · exact sup_bq (sup_app y _ _ _ _)
theorem sup_step (y : Nat) (ins : Instr) (len : Nat) (ns : List Nat) (cst : PV) (pc : Nat) (ls : List (Option PV)) (st : List PV) (M : Mem) : Sup (fun κ => stepK (fun z mx as M => κ z 0 (ent as mx) [] M) (κ y) ins len ns cst pc ls st M) := by
  unfold stepK
  split
  all_goals try exact sup_inv y pc len ns ls st M
  all_goals try exact sup_mt y (pc + len) M _
  all_goals try (split <;> try exact sup_const none)
  all_goals try split
  all_goals first
    | exact sup_const _
    | exact sup_app y _ _ _ _
    | exact sup_ite (sup_app y _ _ _ _) (sup_app y _ _ _ _)
    | exact sup_gd (sup_app y _ _ _ _)
    | exact sup_bq (sup_app y _ _ _ _)
    | exact sup_bq (sup_bq (sup_gd (sup_app y _ _ _ _)))
    | exact sup_rd fun a => sup_app y _ _ _ _
    | exact sup_rd fun a => sup_zo (sup_app y _ _ _ _)
    | exact sup_ix fun a j => sup_app y _ _ _ _
    | exact sup_ix fun a j => sup_zo (sup_app y _ _ _ _)
    | exact sup_ix fun a j => sup_itd (sup_app y _ _ _ _) (sup_const none)
    | exact sup_al fun a => sup_app y _ _ _ _
    | exact sup_ck (sup_app y _ _ _ _)
    | exact sup_sw y _ pc ls _ M _ _ _
    | exact sup_zo (sup_const _)
theorem sup_one (P : Prg) (y pc : Nat) (ls : List (Option PV)) (st : List PV) (M : Mem) : Sup (fun κ => one P κ y pc ls st M) := by
  unfold one
  cases P y pc with
  | none => exact sup_const none
  | some e => exact sup_step y e.1 e.2.1 e.2.2.1 e.2.2.2.1 pc (clrs e.2.2.2.2 ls) st M
def Le (κ κ' : Kp) : Prop := ∀ q r, ask κ q = some r → ask κ' q = some r
theorem one_mono (P : Prg) {κ κ' : Kp} (h : Le κ κ') : Le (one P κ) (one P κ') := by
  intro q r hr
  obtain ⟨qs, a, b⟩ := sup_one P q.1 q.2.1 q.2.2.1 q.2.2.2.1 q.2.2.2.2 κ r hr
  exact b κ' fun x hx => h x.1 x.2 (a x hx)
theorem rnF_succ (P : Prg) : ∀ n, Le (rnF P n) (rnF P (n + 1))
  | 0 => fun q r h => by cases h
  | n + 1 => one_mono P (rnF_succ P n)
theorem rnF_le (P : Prg) {n m : Nat} (h : n ≤ m) : Le (rnF P n) (rnF P m) := by
  induction h with
  | refl => exact fun _ _ h => h
  | step _ ih => exact fun q r hr => rnF_succ P _ q r (ih q r hr)
noncomputable def rn (P : Prg) : Kp := fun y pc ls st M => @dite _ (∃ r, ∃ n, ask (rnF P n) (y, pc, ls, st, M) = some r) (Classical.propDecidable _) (fun h => some h.choose) (fun _ => none)
theorem rn_iff (P : Prg) (q : Qy) (r : Rt) : ask (rn P) q = some r ↔ ∃ n, ask (rnF P n) q = some r := by
  obtain ⟨y, pc, ls, st, M⟩ := q
  constructor
  · intro h
    by_cases hx : ∃ r, ∃ n, ask (rnF P n) (y, pc, ls, st, M) = some r
    · have h1 : ask (rn P) (y, pc, ls, st, M) = some hx.choose := dif_pos hx
      rw [h1] at h
      cases h
      exact hx.choose_spec
    · have h1 : ask (rn P) (y, pc, ls, st, M) = none := dif_neg hx
      rw [h1] at h
      cases h
  · rintro ⟨n, hn⟩
    have hx : ∃ r, ∃ n, ask (rnF P n) (y, pc, ls, st, M) = some r := ⟨r, n, hn⟩
    have h1 : ask (rn P) (y, pc, ls, st, M) = some hx.choose := dif_pos hx
    rw [h1]
    obtain ⟨k, hk⟩ := hx.choose_spec
    have e1 := rnF_le P (Nat.le_max_left n k) _ _ hn
    have e2 := rnF_le P (Nat.le_max_right n k) _ _ hk
    rw [e1] at e2
    exact e2.symm
theorem rnF_rn (P : Prg) (n : Nat) : Le (rnF P n) (rn P) := fun q r h => (rn_iff P q r).mpr ⟨n, h⟩
theorem all_at (P : Prg) (qs : List (Qy × Rt)) (h : ∀ q ∈ qs, ask (rn P) q.1 = some q.2) : ∃ n, ∀ q ∈ qs, ask (rnF P n) q.1 = some q.2 := by
  induction qs with
  | nil => exact ⟨0, fun _ h => absurd h List.not_mem_nil⟩
  | cons x t ih =>
    obtain ⟨n, hn⟩ := ih fun q hq => h q (List.mem_cons_of_mem _ hq)
    obtain ⟨k, hk⟩ := (rn_iff P x.1 x.2).mp (h x List.mem_cons_self)
    refine ⟨max n k, fun q hq => ?_⟩
    rcases List.mem_cons.mp hq with rfl | hq
    · exact rnF_le P (Nat.le_max_right n k) _ _ hk
    · exact rnF_le P (Nat.le_max_left n k) _ _ (hn q hq)
/-- THE EQUATION -/
theorem rn_eq (P : Prg) (y pc : Nat) (ls : List (Option PV)) (st : List PV) (M : Mem) : rn P y pc ls st M = one P (rn P) y pc ls st M := by
  apply Option.ext
  intro r
  constructor
  · intro h
    obtain ⟨n, hn⟩ := (rn_iff P (y, pc, ls, st, M) r).mp h
    cases n with
    | zero => cases hn
    | succ n => exact one_mono P (rnF_rn P n) (y, pc, ls, st, M) r hn
  · intro h
    obtain ⟨qs, a, b⟩ := sup_one P y pc ls st M (rn P) r h
    obtain ⟨n, hn⟩ := all_at P qs a
    exact (rn_iff P (y, pc, ls, st, M) r).mpr ⟨n + 1, b (rnF P n) hn⟩
theorem lset_lset (i j : Nat) : ∀ ls : List (Option PV), lset (lset ls i none) j none = lset (lset ls j none) i none := by
  induction i generalizing j with
  | zero => intro ls; cases ls <;> cases j <;> rfl
  | succ i ih =>
    intro ls
    cases ls with
    | nil => cases j <;> rfl
    | cons x t => cases j with
      | zero => rfl
      | succ j => exact congrArg (x :: ·) (ih j t)
theorem lset_id (i : Nat) : ∀ ls : List (Option PV), lset (lset ls i none) i none = lset ls i none := by
  induction i with
  | zero => intro ls; cases ls <;> rfl
  | succ i ih =>
    intro ls
    cases ls with
    | nil => rfl
    | cons x t => exact congrArg (x :: ·) (ih t)
theorem clrs_lset (ms : List Nat) : ∀ (i : Nat) (ls : List (Option PV)), clrs ms (lset ls i none) = lset (clrs ms ls) i none := by
  induction ms with
  | nil => intro i ls; rfl
  | cons j t ih =>
    intro i ls
    show clrs t (lset (lset ls i none) j none) = lset (clrs t (lset ls j none)) i none
    rw [lset_lset, ih]
theorem clrs_id (ms : List Nat) : ∀ ls : List (Option PV), clrs ms (clrs ms ls) = clrs ms ls := by
  induction ms with
  | nil => intro ls; rfl
  | cons j t ih =>
    intro ls
    show clrs t (lset (clrs t (lset ls j none)) j none) = clrs t (lset ls j none)
    rw [clrs_lset, clrs_lset, clrs_lset, ih, lset_id]
def msk (P : Prg) (y pc : Nat) : List Nat := match P y pc with
  | some e => e.2.2.2.2
  | none => []
theorem rn_clr (P : Prg) (y pc : Nat) (ls : List (Option PV)) (st : List PV) (M : Mem) : rn P y pc (clrs (msk P y pc) ls) st M = rn P y pc ls st M := by
  rw [rn_eq, rn_eq P y pc ls]
  unfold one msk
  cases P y pc with
  | none => rfl
  | some e => dsimp only; rw [clrs_id]
/-- unrolled: up to n instructions on, ending early ahead of the places in 'stops' -/
noncomputable def un (P : Prg) (stops : List Nat) (y n : Nat) : Kt := Nat.rec (motive := fun _ => Kt) (rn P y) (fun _ u => fun pc ls st M => match stops.any (Nat.beq pc) with
    | true => cmk (msk P y pc) ls fun ls => rn P y pc ls st M
    | false => match P y pc with
      | some e => cmk e.2.2.2.2 ls fun ls => stepK (fun z mx as M => rn P z 0 (ent as mx) [] M) u e.1 e.2.1 e.2.2.1 e.2.2.2.1 pc ls st M
      | none => none) n
theorem un_eq (P : Prg) (stops : List Nat) (y : Nat) : ∀ n, un P stops y n = rn P y
  | 0 => rfl
  | n + 1 => by
    funext pc ls st M
    show (match stops.any (Nat.beq pc) with | true => cmk (msk P y pc) ls fun ls => rn P y pc ls st M | false => match P y pc with | some e => cmk e.2.2.2.2 ls fun ls => stepK (fun z mx as M => rn P z 0 (ent as mx) [] M) (un P stops y n) e.1 e.2.1 e.2.2.1 e.2.2.2.1 pc ls st M | none => none) = _
    rw [un_eq P stops y n]
    cases stops.any (Nat.beq pc) with
    | true => exact (cmk_eq _ _ _).trans (rn_clr P y pc ls st M)
    | false =>
      rw [rn_eq P y pc ls st M]
      unfold one
      cases P y pc with
      | none => rfl
      | some e => dsimp only; rw [cmk_eq]
/-- the first instruction, then unrolled -/
noncomputable def un1 (P : Prg) (stops : List Nat) (y n : Nat) : Kt := fun pc ls st M => match P y pc with
      | some e => cmk e.2.2.2.2 ls fun ls => stepK (fun z mx as M => rn P z 0 (ent as mx) [] M) (un P stops y n) e.1 e.2.1 e.2.2.1 e.2.2.2.1 pc ls st M
      | none => none
theorem rn_un (P : Prg) (stops : List Nat) (y n pc : Nat) (ls : List (Option PV)) (st : List PV) (M : Mem) : rn P y pc ls st M = un1 P stops y n pc ls st M := by
  unfold un1
  rw [un_eq P stops y n, rn_eq P y pc ls st M]
  unfold one
  cases P y pc with
  | none => rfl
  | some e => dsimp only; rw [cmk_eq]
