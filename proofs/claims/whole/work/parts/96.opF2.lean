/-! FAMILIES: leaves -/
/-- the place of a number, or -1 -/
def fndI : List Int32 → Int32 → Nat → Int32
  | [], _, _ => -1
  | q :: t, c, i => if q = c then nI i else fndI t c (i + 1)
theorem fndI_mem {c : Int32} : ∀ (l : List Int32) (i : Nat), i + l.length < 2147483648 → (fndI l c i = -1 ↔ ¬ c ∈ l) := by
  intro l
  induction l with
  | nil => intro i _; simp [fndI]
  | cons q t ih =>
    intro i hi
    simp only [List.length_cons] at hi
    simp only [fndI]
    by_cases h : q = c
    · rw [if_pos h]
      exact ⟨fun z => absurd z (nI_m1 (by omega)), fun z => absurd (by rw [h]; exact List.mem_cons_self) z⟩
    · rw [if_neg h, ih (i + 1) (by omega), List.mem_cons]
      exact ⟨fun z y => y.elim (fun e => h e.symm) z, fun z y => z (Or.inr y)⟩
theorem pigeon : ∀ (n : Nat) (l : List Int32), l.Nodup → (∀ c ∈ l, ∃ r, r < n ∧ c = nI r) → l.length ≤ n := by
  intro n
  induction n with
  | zero =>
    intro l _ h
    cases l with
    | nil => exact Nat.le_refl _
    | cons c t => obtain ⟨r, z, -⟩ := h c List.mem_cons_self; omega
  | succ n ih =>
    intro l hn h
    have h1 := ih (l.erase (nI n)) (hn.erase _) (fun c hc => by
      rw [hn.mem_erase_iff] at hc
      obtain ⟨r, z1, z2⟩ := h c hc.2
      refine ⟨r, ?_, z2⟩
      have : r ≠ n := fun e => hc.1 (by rw [z2, e])
      omega)
    by_cases hm : nI n ∈ l
    · rw [List.length_erase_of_mem hm] at h1
      omega
    · rw [List.erase_of_not_mem hm] at h1
      omega
/-- leaves that can be -/
def gdL (acc : List Int32) : Prop := acc.Nodup ∧ ∀ c ∈ acc, ∃ r, r < 6 ∧ c = nI r
theorem gdL.nil : gdL [] := ⟨List.nodup_nil, fun c h => by simp at h⟩
theorem gdL.add {acc : List Int32} {c : Int32} (h : gdL acc) (hc : ∃ r, r < 6 ∧ c = nI r) : gdL (addL acc c) := by
  unfold addL
  split
  · exact h
  · rename_i hn
    refine ⟨?_, fun d hd => ?_⟩
    · rw [List.nodup_append]
      refine ⟨h.1, by simp, fun a ha b hb e => ?_⟩
      rw [List.mem_singleton] at hb
      rw [e, hb] at ha
      exact hn ha
    · rw [List.mem_append, List.mem_singleton] at hd
      rcases hd with hd | rfl
      · exact h.2 d hd
      · exact hc
theorem gdL.lt {acc : List Int32} {c : Int32} (h : gdL acc) (hc : ∃ r, r < 6 ∧ c = nI r) (hn : ¬ c ∈ acc) : acc.length < 6 := by
  have := gdL.add h hc
  unfold addL at this
  rw [if_neg hn] at this
  have := pigeon 6 _ this.1 this.2
  rw [List.length_append] at this
  simp only [List.length_cons, List.length_nil] at this
  omega
theorem gdL.fold {t : List Int32} (ht : gdL t) : ∀ acc, gdL acc → gdL (t.foldl addL acc) := by
  have key : ∀ (t acc : List Int32), (∀ c ∈ t, ∃ r, r < 6 ∧ c = nI r) → gdL acc → gdL (t.foldl addL acc) := by
    intro t
    induction t with
    | nil => intro acc _ h; exact h
    | cons c t ih => intro acc h1 h; exact ih _ (fun d hd => h1 d (List.mem_cons_of_mem _ hd)) (h.add (h1 c List.mem_cons_self))
  exact fun acc => key t acc ht.2
section OPF
variable {x : Nat} {E E' : List TE} {R R' : List TR} {F F' : List TF} {W W' : List TW} {O O' : List TO} {T T' : List TL} {S S' : TS} {jW jO jW' jO' n : Nat} {M M' M1 : Mem}
theorem c_hasMember {a : Nat} {q : TF} (hc : cF M q a) (c : Int32) : ex 50 3 [pR (some a), pI c] M = some (some (pI (if fndI q.1 c 0 = -1 then 0 else 1)), M) := by
  obtain ⟨h1, ⟨h2, h3, h4, h5, h6, h7⟩, -⟩ := hc
  have key : ∀ (n i : Nat), n + i = q.1.length → rn PP 50 2 [some (pR (some a)), some (pI c), some (pI (nI i))] [] M = some (some (pI (if fndI (q.1.drop i) c i = -1 then 0 else 1)), M) := by
    intro n
    induction n with
    | zero =>
      intro i hi
      rw [tX4_hasMember_2]
      refine rd_i rfl h1 (it_t (by rw [h3]; exact nI_le (by omega) (by omega)) (zo_i (Or.inl rfl) ?_))
      rw [List.drop_of_length_le (by omega)]
      rfl
    | succ n ih =>
      intro i hi
      obtain ⟨r, hr, hd⟩ := drop_get (l := q.1) (i := i) (by omega)
      rw [tX4_hasMember_2, hd]
      refine rd_i rfl h1 (it_f (by rw [h3]; exact nI_ge (by omega) (by omega)) (rd_i rfl h1 (ix_i h2 (Or.inl h4) rfl (by omega) (by omega) ?_)))
      rw [h7 i r hr]
      show _ = some (some (pI (if (if r = c then nI i else fndI (q.1.drop (i + 1)) c (i + 1)) = -1 then 0 else 1)), M)
      by_cases e : r = c
      · rw [if_pos e, if_neg (nI_m1 (by omega))]
        exact it_f (not_not_intro e) (zo_i (Or.inr rfl) rfl)
      · rw [if_neg e]
        refine it_t e ?_
        rw [nI_1]
        exact ih (i + 1) (by omega)
  rw [tX4_hasMember]
  exact key q.1.length 0 (by omega)
theorem c_tagOf {a : Nat} {q : TF} (hc : cF M q a) (c : Int32) : ex 51 3 [pR (some a), pI c] M = some (some (pI (fndI q.2 c 0)), M) := by
  obtain ⟨h1, -, ⟨h2, h3, h4, h5, h6, h7⟩⟩ := hc
  have key : ∀ (n i : Nat), n + i = q.2.length → rn PP 51 2 [some (pR (some a)), some (pI c), some (pI (nI i))] [] M = some (some (pI (fndI (q.2.drop i) c i)), M) := by
    intro n
    induction n with
    | zero =>
      intro i hi
      rw [tX4_tagOf_2]
      refine rd_i rfl h1 (it_t (by rw [h3]; exact nI_le (by omega) (by omega)) ?_)
      rw [List.drop_of_length_le (by omega)]
      rfl
    | succ n ih =>
      intro i hi
      obtain ⟨r, hr, hd⟩ := drop_get (l := q.2) (i := i) (by omega)
      rw [tX4_tagOf_2, hd]
      refine rd_i rfl h1 (it_f (by rw [h3]; exact nI_ge (by omega) (by omega)) (rd_i rfl h1 (ix_i h2 (Or.inl h4) rfl (by omega) (by omega) ?_)))
      rw [h7 i r hr]
      show _ = some (some (pI (if r = c then nI i else fndI (q.2.drop (i + 1)) c (i + 1))), M)
      by_cases e : r = c
      · rw [if_pos e]
        exact it_f (not_not_intro e) rfl
      · rw [if_neg e]
        refine it_t e ?_
        rw [nI_1]
        exact ih (i + 1) (by omega)
  rw [tX4_tagOf]
  exact key q.2.length 0 (by omega)
/-- the leaves of the family at a alone have changed -/
def LF (x a : Nat) (M M' : Mem) : Prop := Fr x (fun k => k = 259) No (fun d => d = a + 2) No 0 M M' ∧ ∀ b, b ≠ a → gI M' 259 b = gI M 259 b
theorem LF.rf {a : Nat} (hv : PIv x M) (hL : LI M) : LF x a M M := ⟨Fr.rf hv hL, fun _ _ => rfl⟩
theorem LF.tr {a : Nat} {M2 : Mem} (h : LF x a M M1) (g : LF x a M1 M2) : LF x a M M2 := ⟨h.1.tr g.1, fun b hb => (g.2 b hb).trans (h.2 b hb)⟩
theorem cF.lf {a b : Nat} {q q' : TF} (h : cF M q b) (ha : cF M q' a) (hne : b ≠ a) (u : LF x a M M') : cF M' q b := by
  obtain ⟨f, o⟩ := u
  obtain ⟨ka, ⟨-, -, ka1, -⟩, -, -, ka2, -⟩ := ha
  obtain ⟨h1, ⟨h2, h3, h4, h5, h6, h7⟩, ⟨g2, g3, g4, g5, g6, g7⟩⟩ := h
  have hk := lt_of_kd f.v0 h1 (by omega)
  have hk1 := lt_of_kd f.v0 h4 (by omega)
  have hk2 := lt_of_kd f.v0 g4 (by omega)
  have n1 : ¬ b + 1 = a + 2 := fun e => by
    have : b = a + 1 := by omega
    rw [this] at h1
    omega
  exact ⟨by rw [f.fk hk]; exact h1, ⟨by rw [f.fR (by omega) hk (by decide)]; exact h2, by rw [f.fI (by omega) hk (by decide)]; exact h3, by rw [f.fk hk1]; exact h4, by rw [f.fl hk1]; exact h5, h6, fun i c hc => by rw [f.eI hk1 n1]; exact h7 i c hc⟩, ⟨by rw [f.fR (by omega) hk (by decide)]; exact g2, by rw [o b hne]; exact g3, by rw [f.fk hk2]; exact g4, by rw [f.fl hk2]; exact g5, g6, fun i c hc => by rw [f.eI hk2 (by omega)]; exact g7 i c hc⟩⟩
theorem c_addLeaf {a : Nat} {q : TF} {c : Int32} (hc : cF M q a) (hv : PIv x M) (hL : LI M) (hg : gdL q.2) (hcr : ∃ r, r < 6 ∧ c = nI r) : ∃ M', ex 52 2 [pR (some a), pI c] M = some (none, M') ∧ cF M' (q.1, addL q.2 c) a ∧ LF x a M M' := by
  have ht := c_tagOf hc c
  obtain ⟨h1, ⟨h2, h3, h4, h5, h6, h7⟩, ⟨g2, g3, g4, g5, g6, g7⟩⟩ := id hc
  by_cases hm : c ∈ q.2
  · refine ⟨M, ?_, ?_, LF.rf hv hL⟩
    · rw [tX4_addLeaf]
      exact rd_i rfl h1 (clI_i ht (it_t (fun z => (fndI_mem q.2 0 (by omega)).mp z hm) rfl))
    · unfold addL
      rw [if_pos hm]
      exact hc
  · have hl := hg.lt hcr hm
    have hf : fndI q.2 c 0 = -1 := (fndI_mem q.2 0 (by omega)).mpr hm
    have ea : addL q.2 c = q.2 ++ [c] := by unfold addL; rw [if_neg hm]
    have f1 : Fr x (fun k => k = 259) No (fun d => d = a + 2) No 0 M (sI M 259 a (nI q.2.length + 1)) := (Fr.rf hv hL).bI (Or.inl ⟨by omega, rfl⟩)
    have k1 : kd (sI M 259 a (nI q.2.length + 1)) (a + 2) = 20 := by rw [kd_sI]; exact g4
    have l1 : ln (sI M 259 a (nI q.2.length + 1)) (a + 2) = 6 := by rw [ln_sI]; exact g5
    have f2 : Fr x (fun k => k = 259) No (fun d => d = a + 2) No 0 M (wI (sI M 259 a (nI q.2.length + 1)) (a + 2) q.2.length c) := f1.bAI (Or.inl rfl)
    refine ⟨wI (sI M 259 a (nI q.2.length + 1)) (a + 2) q.2.length c, ?_, ⟨?_, ⟨?_, ?_, ?_, ?_, h6, fun i d hd => ?_⟩, ⟨?_, ?_, ?_, ?_, ?_, fun i d hd => ?_⟩⟩, f2, fun b hb => ?_⟩
    · rw [tX4_addLeaf]
      refine rd_i rfl h1 (clI_i ht (it_f (not_not_intro hf) (rd_i rfl h1 (rd_i rfl h1 (al_i g2 (by omega) (it_f ?_ (rd_i rfl h1 (rd_i rfl h1 (rd_i rfl h1 ?_)))))))))
      · rw [g3, g5]
        exact nI_ge (by omega) (by omega)
      · rw [g3]
        exact bd_i (ix_i g2 (Or.inl k1) rfl (by omega) (by omega) (bd_i rfl))
    · rw [kd_wI, kd_sI]; exact h1
    · rw [gR_wI, gR_sI]; exact h2
    · rw [gI_wI, gI_sI, up2_ne (by decide)]; exact h3
    · rw [kd_wI, kd_sI]; exact h4
    · rw [ln_wI, ln_sI]; exact h5
    · rw [aI_wI, aI_sI, up1_no (by omega)]; exact h7 i d hd
    · rw [gR_wI, gR_sI]; exact g2
    · rw [gI_wI, gI_sI, up2_at, ea, List.length_append, nI_1]; rfl
    · rw [kd_wI]; exact k1
    · rw [ln_wI]; exact l1
    · rw [ea, List.length_append]; simp only [List.length_cons, List.length_nil]; omega
    · rw [aI_wI, aI_sI, up1_at]
      rw [ea] at hd
      by_cases e : i < q.2.length
      · rw [List.getElem?_append_left e] at hd
        rw [up1_no (by omega)]
        exact g7 i d hd
      · rw [List.getElem?_append_right (by omega)] at hd
        have : i - q.2.length < 1 := (List.getElem?_eq_some_iff.mp hd).1
        have e2 : i = q.2.length := by omega
        subst e2
        rw [Nat.sub_self] at hd
        cases hd
        rw [up1_at]
    · rw [gI_wI, gI_sI, up2_no hb]
theorem c_addLeavesOf {a b : Nat} {q' : TF} (hne : b ≠ a) (hg' : gdL q'.2) : ∀ (n i : Nat) (M : Mem) (q : TF), n + i = q'.2.length → cF M q a → cF M q' b → PIv x M → LI M → gdL q.2 → ∃ M', rn PP 53 2 [some (pR (some a)), some (pR (some b)), some (pI (nI i))] [] M = some (none, M') ∧ cF M' (q.1, (q'.2.drop i).foldl addL q.2) a ∧ LF x a M M' := by
  intro n
  induction n with
  | zero =>
    intro i M q hi hc hb hv hL hg
    obtain ⟨h1, -, ⟨h2, h3, h4, h5, h6, h7⟩⟩ := hb
    refine ⟨M, ?_, ?_, LF.rf hv hL⟩
    · rw [tX4_addLeavesOf_2]
      exact it_f (fun q => nomatch q) (rd_i rfl h1 (it_t (by rw [h3]; exact nI_le (by omega) (by omega)) rfl))
    · rw [List.drop_of_length_le (by omega)]
      exact hc
  | succ n ih =>
    intro i M q hi hc hb hv hL hg
    obtain ⟨h1, -, ⟨h2, h3, h4, h5, h6, h7⟩⟩ := id hb
    obtain ⟨r, hr, hd⟩ := drop_get (l := q'.2) (i := i) (by omega)
    have hrr := hg'.2 r (List.mem_of_getElem? hr)
    obtain ⟨M1, e1, c1, u1⟩ := c_addLeaf hc hv hL hg hrr
    obtain ⟨M2, e2, c2, u2⟩ := ih (i + 1) M1 (q.1, addL q.2 r) (by omega) c1 (hb.lf hc hne u1) u1.1.v u1.1.li (hg.add hrr)
    refine ⟨M2, ?_, ?_, u1.tr u2⟩
    · rw [tX4_addLeavesOf_2]
      refine it_f (fun q => nomatch q) (rd_i rfl h1 (it_f (by rw [h3]; exact nI_ge (by omega) (by omega)) (rd_i rfl h1 (ix_i h2 (Or.inl h4) rfl (by omega) (by omega) ?_))))
      rw [h7 i r hr]
      refine rd_i rfl hc.1 (clV_i e1 ?_)
      rw [nI_1]
      exact e2
    · rw [hd]
      exact c2
end OPF
