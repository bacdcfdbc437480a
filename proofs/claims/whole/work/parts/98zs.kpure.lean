/-! KEEPING: what is to be kept, in plain words -/
section OPS
variable {x : Nat} {E E' : List TE} {R R' : List TR} {F F' : List TF} {W W' : List TW} {O O' : List TO} {T T' : List TL} {S S' : TS} {jW jO jW' jO' n : Nat} {M M' M1 : Mem}
abbrev o0 : TO := (0, [], 0, 0)
/-- the objects among values -/
def chl : List TP → List Int64 → List Nat
  | t :: ts, v :: vs => if t.2.1 = 11 ∧ v ≠ -1 then v.toInt32.toNatClampNeg :: chl ts vs else chl ts vs
  | _, _ => []
def chn (R : List TR) (q : TO) : List Nat := chl (R.getD q.1 ([], [], 0)).1 q.2.1
def lno (O : List TO) (o : Nat) : Int32 := (O.getD o o0).2.2.1
theorem chl_c {t : TP} {ts : List TP} {v : Int64} {vs : List Int64} : chl (t :: ts) (v :: vs) = if t.2.1 = 11 ∧ v ≠ -1 then v.toInt32.toNatClampNeg :: chl ts vs else chl ts vs := by rw [chl]
theorem chl_n {vs : List Int64} : chl [] vs = [] := by cases vs <;> rfl
theorem chl_mem {c : Nat} : ∀ (ts : List TP) (vs : List Int64), c ∈ chl ts vs → ∃ (p : Nat) (t : TP) (v : Int64), ts[p]? = some t ∧ vs[p]? = some v ∧ t.2.1 = 11 ∧ v ≠ -1 ∧ c = v.toInt32.toNatClampNeg := by
  intro ts
  induction ts with
  | nil => intro vs h; rw [chl_n] at h; exact absurd h List.not_mem_nil
  | cons t ts ih =>
    intro vs h
    cases vs with
    | nil => exact absurd h List.not_mem_nil
    | cons v vs =>
      rw [chl_c] at h
      by_cases g : t.2.1 = 11 ∧ v ≠ -1
      · rw [if_pos g] at h
        rcases List.mem_cons.mp h with h | h
        · exact ⟨0, t, v, rfl, rfl, g.1, g.2, h⟩
        · obtain ⟨p, t', v', y1, y2, y3⟩ := ih vs h
          exact ⟨p + 1, t', v', y1, y2, y3⟩
      · rw [if_neg g] at h
        obtain ⟨p, t', v', y1, y2, y3⟩ := ih vs h
        exact ⟨p + 1, t', v', y1, y2, y3⟩
theorem mem_chl {c : Nat} : ∀ (ts : List TP) (vs : List Int64) (p : Nat) (t : TP) (v : Int64), ts[p]? = some t → vs[p]? = some v → t.2.1 = 11 → v ≠ -1 → c = v.toInt32.toNatClampNeg → c ∈ chl ts vs := by
  intro ts
  induction ts with
  | nil => intro vs p t v h; exact nomatch h
  | cons t ts ih =>
    intro vs p t' v' h1 h2 h3 h4 h5
    cases vs with
    | nil => exact nomatch h2
    | cons v vs =>
      rw [chl_c]
      cases p with
      | zero =>
        have h1 : t = t' := Option.some.inj h1
        have h2 : v = v' := Option.some.inj h2
        subst h1
        subst h2
        rw [if_pos ⟨h3, h4⟩, h5]
        exact List.mem_cons_self
      | succ p =>
        have := ih vs p t' v' h1 h2 h3 h4 h5
        split
        · exact List.mem_cons_of_mem _ this
        · exact this
theorem chn_lt {nT o : Nat} {q : TO} (hw : wfO E R F W O nT) (hl : O.length ≤ 164) (hq : O[o]? = some q) : ∀ c ∈ chn R q, c < o := fun c hc => by
  obtain ⟨rc, y1, y2, y3, y4⟩ := hw o q hq
  unfold chn at hc
  rw [getD_at y1] at hc
  obtain ⟨p, t, v, z1, z2, z3, z4, z5⟩ := chl_mem _ _ hc
  have ho : o < O.length := (List.getElem?_eq_some_iff.mp hq).1
  rcases (y4 p t v z1 z2).2.2.2.2 z3 with u | ⟨o', q', g, fq, u1, u2, u3, -⟩
  · exact absurd u z4
  · rw [z5, u3, lN_back (by omega)]
    exact u1
/-- marks -/
def mrk : (Nat → Bool) → List Nat → Nat → Bool
  | w, [] => w
  | w, c :: cs => mrk (fun i => if i = c then true else w i) cs
theorem mrk_up {i : Nat} : ∀ (cs : List Nat) (w : Nat → Bool), w i = true → mrk w cs i = true := by
  intro cs
  induction cs with
  | nil => intro w h; exact h
  | cons c cs ih =>
    intro w h
    rw [mrk]
    refine ih _ ?_
    show (if i = c then true else w i) = true
    split
    · rfl
    · exact h
theorem mrk_mem {i : Nat} : ∀ (cs : List Nat) (w : Nat → Bool), i ∈ cs → mrk w cs i = true := by
  intro cs
  induction cs with
  | nil => intro w h; exact absurd h List.not_mem_nil
  | cons c cs ih =>
    intro w h
    rw [mrk]
    rcases List.mem_cons.mp h with h | h
    · refine mrk_up cs _ ?_
      show (if i = c then true else w i) = true
      rw [if_pos h]
    · exact ih _ h
theorem mrk_no {i : Nat} : ∀ (cs : List Nat) (w : Nat → Bool), (∀ c ∈ cs, c ≠ i) → mrk w cs i = w i := by
  intro cs
  induction cs with
  | nil => intro w _; rfl
  | cons c cs ih =>
    intro w h
    rw [mrk, ih _ (fun d hd => h d (List.mem_cons_of_mem _ hd))]
    show (if i = c then true else w i) = w i
    rw [if_neg (fun z => h c List.mem_cons_self z.symm)]
def wnt (R : List TR) (O : List TO) : Nat → (Nat → Bool) → Nat → Nat × (Nat → Bool)
  | 0, w, n => (n, w)
  | k + 1, w, n => if w k = true ∧ lno O k = -1 then wnt R O k (mrk w (chn R (O.getD k o0))) (n + 1) else wnt R O k w n
/-- how many are marked and not kept -/
def ctU (O : List TO) (w : Nat → Bool) : Nat → Nat
  | 0 => 0
  | k + 1 => ctU O w k + (if w k = true ∧ lno O k = -1 then 1 else 0)
theorem wn_spec (hch : ∀ k, k < O.length → ∀ c ∈ chn R (O.getD k o0), c < k) : ∀ (k : Nat) (w : Nat → Bool) (n : Nat), k ≤ O.length → (∀ i, k ≤ i → (wnt R O k w n).2 i = w i) ∧ (∀ i, w i = true → (wnt R O k w n).2 i = true) ∧ (wnt R O k w n).1 = n + ctU O (wnt R O k w n).2 k ∧ (∀ i, i < k → (wnt R O k w n).2 i = true → lno O i = -1 → ∀ c ∈ chn R (O.getD i o0), (wnt R O k w n).2 c = true) := by
  intro k
  induction k with
  | zero => intro w n _; exact ⟨fun _ _ => rfl, fun _ h => h, rfl, fun i hi => by omega⟩
  | succ k ih =>
    intro w n hk
    rw [wnt]
    by_cases g : w k = true ∧ lno O k = -1
    · rw [if_pos g]
      obtain ⟨a1, a2, a3, a4⟩ := ih (mrk w (chn R (O.getD k o0))) (n + 1) (by omega)
      have hc := hch k (by omega)
      have hk1 : (wnt R O k (mrk w (chn R (O.getD k o0))) (n + 1)).2 k = true := a2 k (mrk_up _ _ g.1)
      refine ⟨fun i hi => ?_, fun i hi => a2 i (mrk_up _ _ hi), ?_, fun i hi h1 h2 c hcc => ?_⟩
      · rw [a1 i (by omega), mrk_no _ _ (fun c hcc => by have := hc c hcc; omega)]
      · rw [a3, ctU, if_pos ⟨hk1, g.2⟩]; omega
      · by_cases z : i = k
        · subst z
          exact a2 c (mrk_mem _ _ hcc)
        · exact a4 i (by omega) h1 h2 c hcc
    · rw [if_neg g]
      obtain ⟨a1, a2, a3, a4⟩ := ih w n (by omega)
      have hk1 := a1 k (Nat.le_refl _)
      refine ⟨fun i hi => a1 i (by omega), a2, ?_, fun i hi h1 h2 c hcc => ?_⟩
      · rw [a3, ctU, if_neg (by rw [hk1]; exact g)]; omega
      · by_cases z : i = k
        · subst z
          rw [hk1] at h1
          exact absurd ⟨h1, h2⟩ g
        · exact a4 i (by omega) h1 h2 c hcc
theorem ctU_mono {w : Nat → Bool} : ∀ {k k' : Nat}, k ≤ k' → ctU O w k ≤ ctU O w k' := by
  intro k k' h
  induction h with
  | refl => exact Nat.le_refl _
  | step h ih => rw [ctU]; omega
theorem asc_le {w : Nat → Bool} : ∀ (ds : List Nat) (K : Nat), ds.Pairwise (fun a b => b < a) → (∀ i ∈ ds, i < K ∧ w i = true ∧ lno O i = -1) → ds.length ≤ ctU O w K := by
  intro ds
  induction ds with
  | nil => intro K _ _; exact Nat.zero_le _
  | cons d ds ih =>
    intro K h1 h2
    obtain ⟨p1, p2⟩ := List.pairwise_cons.mp h1
    obtain ⟨y1, y2, y3⟩ := h2 d List.mem_cons_self
    have := ih d p2 (fun i hi => ⟨p1 i hi, (h2 i (List.mem_cons_of_mem _ hi)).2⟩)
    have m1 : ctU O w (d + 1) ≤ ctU O w K := ctU_mono y1
    rw [ctU, if_pos ⟨y2, y3⟩] at m1
    rw [List.length_cons]
    omega
/-- one is kept: one less -/
theorem ctU_set {w : Nat → Bool} {o : Nat} {q' : TO} (ho : o < O.length) (hw : w o = true) (h0 : lno O o = -1) (h1 : ¬ q'.2.2.1 = -1) : ∀ k, (k ≤ o → ctU (O.set o q') w k = ctU O w k) ∧ (o < k → ctU (O.set o q') w k + 1 = ctU O w k) := by
  have ln_ne : ∀ i, i ≠ o → lno (O.set o q') i = lno O i := fun i hi => by
    unfold lno
    rw [List.getD_eq_getElem?_getD, List.getD_eq_getElem?_getD, List.getElem?_set_ne (fun z => hi z.symm)]
  have ln_at : lno (O.set o q') o = q'.2.2.1 := by
    unfold lno
    rw [List.getD_eq_getElem?_getD, List.getElem?_set_self ho]
    rfl
  intro k
  induction k with
  | zero => exact ⟨fun _ => rfl, fun h => by omega⟩
  | succ k ih =>
    obtain ⟨i1, i2⟩ := ih
    refine ⟨fun h => ?_, fun h => ?_⟩
    · rw [ctU, ctU, i1 (by omega), ln_ne k (by omega)]
    · rw [ctU, ctU]
      by_cases c : k = o
      · subst c
        rw [i1 (Nat.le_refl _), ln_at, if_neg (fun z => h1 z.2), if_pos ⟨hw, h0⟩]
      · have := i2 (by omega)
        rw [ln_ne k c]
        omega
/-- the first of them that isn't kept -/
def fck (O : List TO) (cs : List Nat) : Option Nat := cs.find? (fun c => decide (lno O c = -1))
/-- keeping, step by step: objects, lines, those that wait -/
noncomputable def kst (E : List TE) (R : List TR) (W : List TW) (S : TS) (c : List TO × List TL × List Nat) : List TO × List TL × List Nat := match c.2.2 with
  | [] => c
  | o :: ss => match fck c.1 (chn R (c.1.getD o o0)) with
    | some k => (c.1, c.2.1, k :: o :: ss)
    | none => (c.1.set o ((c.1.getD o o0).1, (c.1.getD o o0).2.1, nI c.2.1.length, (c.1.getD o o0).2.2.2), c.2.1 ++ [mkL E R W c.1 S (c.1.getD o o0)], ss)
theorem kst_nil : kst E R W S (O, T, []) = (O, T, []) := rfl
theorem kst_push {o k : Nat} {ss : List Nat} {q : TO} (hq : O[o]? = some q) (h : fck O (chn R q) = some k) : kst E R W S (O, T, o :: ss) = (O, T, k :: o :: ss) := by
  show (match fck O (chn R (O.getD o o0)) with | some k => _ | none => _) = _
  rw [getD_at hq, h]
theorem kst_write {o : Nat} {ss : List Nat} {q : TO} (hq : O[o]? = some q) (h : fck O (chn R q) = none) : kst E R W S (O, T, o :: ss) = (O.set o (q.1, q.2.1, nI T.length, q.2.2.2), T ++ [mkL E R W O S q], ss) := by
  show (match fck O (chn R (O.getD o o0)) with | some k => _ | none => _) = _
  rw [getD_at hq, h]
noncomputable def kit (E : List TE) (R : List TR) (W : List TW) (S : TS) : Nat → List TO × List TL × List Nat → List TO × List TL × List Nat
  | 0, c => c
  | n + 1, c => kit E R W S n (kst E R W S c)
theorem kit_nil : ∀ n, kit E R W S n (O, T, []) = (O, T, []) := by
  intro n
  induction n with
  | zero => rfl
  | succ n ih => rw [kit, kst_nil, ih]
theorem cntL_app {l : TL} (h : l.2.2.2 = -1) : cntL (T ++ [l]) = cntL T := by
  unfold cntL
  rw [List.filter_append, List.length_append, List.filter_cons_of_neg (by rw [h]; decide)]
  rfl
theorem cntW_app {l : TL} (h : ∀ t ∈ l.2.2.1, t.2.2.2.2.2 = -1) : cntW (T ++ [l]) = cntW T := by
  unfold cntW
  rw [List.map_append, List.sum_append, List.map_cons, List.sum_cons]
  have : l.2.2.1.filter (fun t => t.2.2.2.2.2 != -1) = [] := List.filter_eq_nil_iff.mpr (fun t ht => by rw [h t ht]; decide)
  rw [this]
  rfl
/-- a line more -/
theorem aw_line {o : Nat} {q : TO} {rc : TR} (aw : AW E R F W O T S jW jO) (hl : O.length ≤ 164) (hT : T.length < 64) (hE8 : ∀ (e : Nat) (q : TE), E[e]? = some q → q.1.length ≤ 8) (hq : O[o]? = some q) (hrc : R[q.1]? = some rc) (hk : ∀ c ∈ chn R q, lno O c ≠ -1) : AW E R F W (O.set o (q.1, q.2.1, nI T.length, q.2.2.2)) (T ++ [mkL E R W O S q]) S jW jO := by
  obtain ⟨a1, a2, a3, a4, a5, b1, b2, b3, b4, b5, b6, b7, b8, b9, b10⟩ := aw
  have sh : shO O (O.set o (q.1, q.2.1, nI T.length, q.2.2.2)) := shO.set hq rfl rfl
  have ho : o < O.length := (List.getElem?_eq_some_iff.mp hq).1
  obtain ⟨rc', y1, y2, y3, y4⟩ := a4 o q hq
  rw [hrc] at y1
  cases y1
  have hTl : (T ++ [mkL E R W O S q]).length = T.length + 1 := by rw [List.length_append]; rfl
  have hparts : ∀ (p : Nat) (t : TQ), (mkL E R W O S q).2.2.1[p]? = some t → keptOK W.length T.length t := fun p t ht => by
    obtain ⟨s, v, z1, z2, rfl⟩ := mkL_at hrc ht
    obtain ⟨srt, -⟩ := (a1 q.1 rc hrc).1 p s z1
    obtain ⟨v1, v2, v3, v4, v5⟩ := y4 p s v z1 z2
    have k11 : ¬ s.2.1 = 11 → kqv O s v = v := fun z => by unfold kqv; rw [if_neg z]
    refine ⟨srt.1, fun z => ?_, fun z => ?_, fun z => Or.inr (srt.2.2.2.1 z), fun z => ?_, fun z => ?_, Or.inl rfl⟩
    · have z : s.2.1 < 8 := z
      show shp s.2.1 (kqv O s v) = kqv O s v
      rw [k11 (fun w => by rw [w] at z; exact absurd z (by decide))]
      exact v1 z
    · have z : s.2.1 = 8 := z
      show (kqv O s v < 0 ∧ kqw E W s v = []) ∨ (¬ kqv O s v < 0 ∧ (kqw E W s v).length = 1)
      rw [k11 (by rw [z]; decide)]
      rcases v2 z with w | ⟨e, qe, c, u1, u2, u3, u4⟩
      · refine Or.inl ⟨by rw [w]; decide, ?_⟩
        unfold kqw
        rw [if_pos z, if_pos w]
      · have hE1 : c < 2147483648 := by have := hE8 e qe u2; omega
        refine Or.inr ⟨by rw [u4]; exact lN_nn hE1, ?_⟩
        unfold kqw
        rw [if_pos z, if_neg (by rw [u4]; exact lN_ne hE1)]
        rfl
    · have z : s.2.1 = 11 := z
      show kqv O s v = -1 ∨ ∃ l', l' < T.length ∧ kqv O s v = lN l'
      unfold kqv
      rw [if_pos z]
      rcases v5 z with w | ⟨o', q', g, fq, u1, u2, u3, -⟩
      · rw [if_pos w]; exact Or.inl rfl
      · have ne : v ≠ -1 := by rw [u3]; exact lN_ne (by omega)
        rw [if_neg ne, u3, lN_back (by omega), getD_at u2]
        have hn : lno O o' ≠ -1 := hk o' (by
          unfold chn
          rw [getD_at hrc]
          exact mem_chl _ _ p s v z1 z2 z ne (by rw [u3, lN_back (by omega)]))
        unfold lno at hn
        rw [getD_at u2] at hn
        obtain ⟨-, -, -, w3, -⟩ := a4 o' q' u2
        rcases w3 with w3 | ⟨l', w4, w5⟩
        · exact absurd w3 hn
        · exact Or.inr ⟨l', w4, by rw [w5, nI_l (by omega)]⟩
    · have z : s.2.1 < 8 ∨ s.2.1 = 11 := z
      show kqw E W s v = []
      unfold kqw
      have n8 : ¬ s.2.1 = 8 := fun w => by rw [w] at z; exact absurd z (by decide)
      have n9 : ¬ s.2.1 = 9 := fun w => by rw [w] at z; exact absurd z (by decide)
      have n10 : ¬ s.2.1 = 10 := fun w => by rw [w] at z; exact absurd z (by decide)
      rw [if_neg n8, if_neg n9, if_neg n10]
  refine ⟨a1, a2, a3, ?_, fun l u hu => ?_, b1, b2, b3, b4, ?_, ?_, b7, by rw [List.length_set]; exact b8, by rw [List.length_set]; exact b9, fun i u hi hu => ?_⟩
  · rw [hTl]
    refine a4.sh sh (fun i u hu => ?_)
    rw [List.getElem?_set] at hu
    by_cases c : o = i
    · rw [if_pos c, if_pos ho] at hu
      have hu : (q.1, q.2.1, nI T.length, q.2.2.2) = u := Option.some.inj hu
      subst hu
      exact Or.inr ⟨T.length, by omega, rfl⟩
    · rw [if_neg c] at hu
      obtain ⟨-, -, -, w3, -⟩ := a4 i u hu
      rcases w3 with w3 | ⟨l, w4, w5⟩
      · exact Or.inl w3
      · exact Or.inr ⟨l, by omega, w5⟩
  · rw [List.length_set]
    by_cases c : l < T.length
    · rw [List.getElem?_append_left c] at hu
      exact a5 l u hu
    · rw [List.getElem?_append_right (by omega)] at hu
      have : l - T.length < 1 := (List.getElem?_eq_some_iff.mp hu).1
      rw [show l - T.length = 0 by omega] at hu
      have hu : mkL E R W O S q = u := Option.some.inj hu
      subst hu
      rw [show l = T.length by omega]
      exact ⟨(List.getElem?_eq_some_iff.mp hrc).1, Or.inl rfl, hparts⟩
  · rw [List.length_set, cntL_app rfl]; exact b5
  · rw [cntW_app (fun t ht => ?_)]
    · exact b6
    · obtain ⟨p, hp⟩ := List.getElem?_of_mem ht
      obtain ⟨s, v, -, -, rfl⟩ := mkL_at hrc hp
      rfl
  · rw [List.length_set, twT_sh sh]
    rw [List.getElem?_set] at hu
    by_cases c : o = i
    · subst c
      rw [if_pos rfl, if_pos ho] at hu
      have hu : (q.1, q.2.1, nI T.length, q.2.2.2) = u := Option.some.inj hu
      subst hu
      exact b10 o q hi hq
    · rw [if_neg c] at hu
      exact b10 i u hi hu
end OPS
