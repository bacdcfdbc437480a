/-! LISTS: what an ArrayList holds -/
/-- l is a list of the objects as -/
def isL (M : Mem) (l : Nat) (as : List Nat) : Prop :=
  kd M l = 0 ∧ gI M 2 l = nI as.length ∧ as.length ≤ 1002 ∧ ∃ d, gR M 1 l = some d ∧ as.length ≤ ln M d ∧ ln M d ≤ 1502 ∧ (∀ i a, as[i]? = some a → aR M d i = some a) ∧ (kd M d = 23 ∨ (sR M 3 = some d ∧ as = [] ∧ ln M d = 0 ∧ kd M d = 33))
/-- a check lies in one list alone -/
def CI (M : Mem) : Prop := ∀ l l' d d' j j' k, kd M l = 0 → kd M l' = 0 → gR M 1 l = some d → gR M 1 l' = some d' → kd M d = 23 → kd M d' = 23 → aR M d j = some k → aR M d' j' = some k → kd M k = 1 → d = d'
/-- it lies in no list -/
def NoL (M : Mem) (k : Nat) : Prop := ∀ l d j, kd M l = 0 → gR M 1 l = some d → kd M d = 23 → aR M d j ≠ some k
/-- no two lists share their rows -/
def LI (M : Mem) : Prop := (∀ l d, kd M l = 0 → gR M 1 l = some d → d < mT M) ∧ (∀ l l' d, kd M l = 0 → kd M l' = 0 → gR M 1 l = some d → gR M 1 l' = some d → kd M d = 23 → l = l') ∧ CI M
/-- list l alone has changed -/
def LM (M M' : Mem) (l : Nat) : Prop :=
  mT M ≤ mT M' ∧ mT M' ≤ mT M + 1 ∧ mS M ≤ mS M' ∧ mS M' ≤ mS M + 1502 ∧ sR M' = sR M ∧ gJ M' = gJ M ∧
  (∀ a, a < mT M → kd M' a = kd M a ∧ ln M' a = ln M a ∧ aI M' a = aI M a ∧ aJ M' a = aJ M a) ∧
  (∀ a, a < mT M → kd M a = 24 → aR M' a = aR M a) ∧
  (∀ k, 3 ≤ k → gI M' k = gI M k) ∧ (∀ k, 3 ≤ k → gR M' k = gR M k) ∧
  (∀ l' as', l' ≠ l → isL M l' as' → isL M' l' as') ∧ LI M'
theorem up2_ne {α : Type} {f : Nat → Nat → α} {k a j : Nat} {v : α} (h : j ≠ k) : up2 f k a v j = f j := funext fun b => if_neg (fun q => h q.1)
theorem up2_at {α : Type} {f : Nat → Nat → α} {k a : Nat} {v : α} : up2 f k a v k a = v := if_pos ⟨rfl, rfl⟩
theorem up2_no {α : Type} {f : Nat → Nat → α} {k a j b : Nat} {v : α} (h : b ≠ a) : up2 f k a v j b = f j b := if_neg (fun q => h q.2)
theorem up1_at {α : Type} {f : Nat → α} {k : Nat} {v : α} : up1 f k v k = v := if_pos rfl
theorem up1_no {α : Type} {f : Nat → α} {k j : Nat} {v : α} (h : j ≠ k) : up1 f k v j = f j := if_neg h
theorem L_size {M : Mem} {l : Nat} {as : List Nat} (h : isL M l as) : ex 14 1 [pR (some l)] M = some (some (pI (nI as.length)), M) := by
  obtain ⟨h1, h2, -⟩ := h
  rw [tJx4a65c_size_8abf5]
  refine rd_i rfl h1 ?_
  rw [h2]
theorem chkIdx {i n : Nat} (M : Mem) (h : i < n) (hn : n < 2147483648) : ex 26 2 [pI (nI i), pI (nI n)] M = some (some (pI (nI i)), M) := by
  have h1 : ex 29 3 [pI (nI i), pI (nI n), pR (none : Option Nat)] M = some (some (pI (nI i)), M) := by
    rw [tJ3_checkIndex_8e157]
    exact it_f (nI_pos (by omega)) (it_t (nI_lt h hn) rfl)
  rw [tJ15_checkIndex_7cf53]
  exact clI_i h1 rfl
/-- the row of a list with something in it -/
theorem isL.row {M : Mem} {l i : Nat} {as : List Nat} (h : isL M l as) (hi : i < as.length) : ∃ d, gR M 1 l = some d ∧ as.length ≤ ln M d ∧ ln M d ≤ 1502 ∧ (∀ i a, as[i]? = some a → aR M d i = some a) ∧ kd M d = 23 := by
  obtain ⟨-, -, -, d, h3, h4, h5, h6, h7⟩ := h
  refine ⟨d, h3, h4, h5, h6, ?_⟩
  rcases h7 with h7 | ⟨-, h7, -⟩
  · exact h7
  · rw [h7] at hi
    exact absurd hi (Nat.not_lt_zero _)
theorem L_get {M : Mem} {l i a : Nat} {as : List Nat} (h : isL M l as) (hi : as[i]? = some a) : ex 16 2 [pR (some l), pI (nI i)] M = some (some (pR (some a)), M) := by
  have hl : i < as.length := (List.getElem?_eq_some_iff.mp hi).1
  obtain ⟨d, h3, h4, h5, h6, h7⟩ := h.row hl
  obtain ⟨h1, h2, h8, -⟩ := h
  have e1 : ex 15 2 [pR (some l), pI (nI i)] M = some (some (pR (some a)), M) := by
    rw [tJx4a65c_elementData_915e3]
    refine rd_i rfl h1 (ix_i h3 (Or.inl h7) rfl (by omega) (by omega) ?_)
    rw [h6 i a hi]
  have e2 := chkIdx M hl (by omega)
  rw [tJx4a65c_get_915e3]
  refine rd_i rfl h1 ?_
  rw [h2]
  exact clI_i e2 (rd_i rfl h1 (clR_i e1 rfl))
/-- only the row of list l is written, and its size -/
theorem LM_of {M M' : Mem} {l d : Nat} {as as2 : List Nat} (hLI : LI M) (h : isL M l as) (hd : gR M 1 l = some d) (hk : kd M d = 23) (f : Nat → Option Nat) (hlen : as2.length ≤ ln M d) (h1002 : as2.length ≤ 1002) (hel : ∀ i a, as2[i]? = some a → f i = some a) (hsub : ∀ j k, f j = some k → kd M k = 1 → (∃ j', aR M d j' = some k) ∨ NoL M k)
    (e1 : mT M' = mT M) (e2 : mS M' = mS M) (e3 : sR M' = sR M) (e4 : gJ M' = gJ M) (e5 : kd M' = kd M) (e6 : ln M' = ln M) (e7 : aI M' = aI M) (e8 : aJ M' = aJ M) (e9 : gR M' = gR M) (e10 : ∀ k, 3 ≤ k → gI M' k = gI M k) (e11 : gI M' 2 l = nI as2.length) (e12 : ∀ l', l' ≠ l → gI M' 2 l' = gI M 2 l') (e13 : ∀ b, aR M' b = if b = d then f else aR M b) :
    isL M' l as2 ∧ LM M M' l := by
  obtain ⟨h1, h2, h8, d', h3, h4, h5, h6, h7⟩ := h
  rw [hd] at h3
  cases h3
  refine ⟨⟨by rw [e5]; exact h1, e11, h1002, d, by rw [e9]; exact hd, by rw [e6]; exact hlen, by rw [e6]; exact h5, fun i a hi => ?_, Or.inl (by rw [e5]; exact hk)⟩, by omega, by omega, by omega, by omega, e3, e4, fun a _ => ⟨by rw [e5], by rw [e6], by rw [e7], by rw [e8]⟩, fun a _ ha => ?_, e10, fun k hk => by rw [e9], fun l' as' hne g => ?_, ?_⟩
  · rw [e13, if_pos rfl]
    exact hel i a hi
  · rw [e13, if_neg (fun q => by subst q; omega)]
  · obtain ⟨g1, g2, g8, d2, g3, g4, g5, g6, g7⟩ := g
    have hdd : kd M d2 = 23 → d2 ≠ d := fun q e => hne (hLI.2.1 l' l d g1 h1 (e ▸ g3) hd hk)
    refine ⟨by rw [e5]; exact g1, by rw [e12 l' hne]; exact g2, g8, d2, by rw [e9]; exact g3, by rw [e6]; exact g4, by rw [e6]; exact g5, fun i a hi => ?_, by rw [e5, e6, e3]; exact g7⟩
    rw [e13, if_neg ?_]
    · exact g6 i a hi
    · rcases g7 with g7 | ⟨-, g7, -⟩
      · exact hdd g7
      · rw [g7] at hi
        cases hi
  · unfold LI
    rw [e5, e9, e1]
    refine ⟨hLI.1, hLI.2.1, ?_⟩
    unfold CI
    rw [e5, e9]
    intro l1 l2 d1 d2 j1 j2 k k1 k2 r1 r2 t1 t2 a1 a2 kk
    rw [e13] at a1 a2
    by_cases q1 : d1 = d
    · by_cases q2 : d2 = d
      · rw [q1, q2]
      · rw [if_pos q1] at a1
        rw [if_neg q2] at a2
        rcases hsub j1 k a1 kk with ⟨j', z⟩ | z
        · exact q1.trans (hLI.2.2 l l2 d d2 j' j2 k h1 k2 hd r2 hk t2 z a2 kk)
        · exact absurd a2 (z l2 d2 j2 k2 r2 t2)
    · rw [if_neg q1] at a1
      by_cases q2 : d2 = d
      · rw [if_pos q2] at a2
        rcases hsub j2 k a2 kk with ⟨j', z⟩ | z
        · exact (hLI.2.2 l1 l d1 d j1 j' k k1 h1 r1 hd t1 hk a1 z kk).trans q2.symm
        · exact absurd a1 (z l1 d1 j1 k1 r1 t1)
      · rw [if_neg q2] at a2
        exact hLI.2.2 l1 l2 d1 d2 j1 j2 k k1 k2 r1 r2 t1 t2 a1 a2 kk
theorem L_set {M : Mem} {l i a : Nat} {as : List Nat} (hLI : LI M) (h : isL M l as) (hi : i < as.length) (ha : 2 ≤ kd M a ∧ kd M a ≤ 10) : ∃ v M', ex 17 4 [pR (some l), pI (nI i), pR (some a)] M = some (some (pR v), M') ∧ isL M' l (as.set i a) ∧ LM M M' l ∧ mT M' = mT M ∧ mS M' = mS M ∧ gR M' = gR M ∧ gI M' = gI M := by
  obtain ⟨d, h3, h4, h5, h6, h7⟩ := h.row hi
  obtain ⟨h1, h2, h8, -⟩ := id h
  have e1 : ex 15 2 [pR (some l), pI (nI i)] M = some (some (pR (aR M d i)), M) := by
    rw [tJx4a65c_elementData_915e3]
    exact rd_i rfl h1 (ix_i h3 (Or.inl h7) rfl (by omega) (by omega) rfl)
  have e2 := chkIdx M hi (by omega)
  refine ⟨aR M d i, wR M d i (some a), ?_, ?_⟩
  · rw [tJx4a65c_set_bcc79]
    refine rd_i rfl h1 ?_
    rw [h2]
    exact clI_i e2 (rd_i rfl h1 (clR_i e1 (rd_i rfl h1 (ix_i h3 (Or.inl h7) rfl (by omega) (by omega) (st_i (Or.inl ⟨h7, by omega⟩) rfl)))))
  · obtain ⟨g1, g2⟩ := LM_of (M' := wR M d i (some a)) (as2 := as.set i a) hLI h h3 h7 (up1 (aR M d) i (some a)) (by rw [List.length_set]; exact h4) (by rw [List.length_set]; exact h8) (fun j b hj => by
        rw [List.getElem?_set] at hj
        by_cases e : i = j
        · subst e
          rw [if_pos rfl, if_pos hi] at hj
          cases hj
          exact up1_at
        · rw [if_neg e] at hj
          rw [up1_no (fun q => e q.symm)]
          exact h6 j b hj) (fun j k hj hk => by
        by_cases e : j = i
        · rw [e, up1_at] at hj
          cases hj
          omega
        · rw [up1_no e] at hj
          exact Or.inl ⟨j, hj⟩) rfl rfl rfl rfl rfl rfl rfl rfl rfl (fun k _ => rfl) (by rw [List.length_set]; exact h2) (fun l' _ => rfl) (fun b => rfl)
    exact ⟨g1, g2, rfl, rfl, rfl, rfl⟩
theorem shr1 : ∀ n, n < 1002 → nI n >>> ((1 : Int32) &&& 31) = nI (n / 2) := by decide +kernel
theorem mathMax {a b : Nat} (M : Mem) (ha : a < 2147483648) (hb : b < 2147483648) : ex 7 2 [pI (nI a), pI (nI b)] M = some (some (pI (nI (max a b))), M) := by
  rw [tJ9_max_7cf53]
  by_cases h : a < b
  · refine it_t (nI_lt h hb) ?_
    rw [Nat.max_eq_right (by omega)]
  · refine it_f (nI_nlt (by omega) ha) ?_
    rw [Nat.max_eq_left (by omega)]
theorem mathMin {a b : Nat} (M : Mem) (ha : a < 2147483648) (hb : b < 2147483648) : ex 8 2 [pI (nI a), pI (nI b)] M = some (some (pI (nI (min a b))), M) := by
  rw [tJ9_min_7cf53]
  by_cases h : b < a
  · refine it_t (nI_lt h ha) ?_
    rw [Nat.min_eq_right (by omega)]
  · refine it_f (nI_nlt (by omega) hb) ?_
    rw [Nat.min_eq_left (by omega)]
/-- a list's row is full: a larger one -/
theorem L_grow {M : Mem} {l base : Nat} {as : List Nat} (hv : PIv base M) (hde : ∀ d, sR M 3 = some d → d < mT M) (hLI : LI M) (h : isL M l as) (hn : as.length ≤ 1001) (hfull : ∀ d, gR M 1 l = some d → ln M d = as.length) :
    ∃ d M', ex 13 1 [pR (some l)] M = some (some (pR (some d)), M') ∧ isL M' l as ∧ LM M M' l ∧ gR M' 1 l = some d ∧ kd M' d = 23 ∧ as.length < ln M' d ∧ gI M' = gI M ∧ (∀ k, k ≠ mT M → NoL M k → NoL M' k) := by
  obtain ⟨h1, h2, h8, d, h3, h4, h5, h6, h7⟩ := id h
  have hlen := hfull d h3
  have hdT : d < mT M := hLI.1 l d h1 h3
  have hlT : l < mT M := (hv.2.1 l (by omega)).2
  -- the new row of c places, the old ones in front
  have fin : ∀ (c : Nat) (f : Nat → Option Nat) (M' : Mem), as.length < c → c ≤ 1502 → (∀ i a, as[i]? = some a → f i = some a) → (∀ j k, f j = some k → kd M d = 23 ∧ aR M d j = some k) → M' = sF (uR (nA M 23 c) (mT M) f) 1 l (some (mT M)) → isL M' l as ∧ LM M M' l ∧ gR M' 1 l = some (mT M) ∧ kd M' (mT M) = 23 ∧ as.length < ln M' (mT M) ∧ gI M' = gI M ∧ (∀ k, k ≠ mT M → NoL M k → NoL M' k) := by
    intro c f M' hc1 hc2 hf hfs e
    have ekd : ∀ b, kd M' b = if b = mT M then 23 else kd M b := fun b => by rw [e]; rfl
    have eln : ∀ b, ln M' b = if b = mT M then c else ln M b := fun b => by rw [e]; rfl
    have egR : ∀ k b, gR M' k b = up2 (gR M) 1 l (some (mT M)) k b := fun k b => by rw [e]; rfl
    have eaR : ∀ b, aR M' b = if b = mT M then f else aR M b := fun b => by
      rw [e]
      show up1 (up1 (aR M) (mT M) (fun _ => none)) (mT M) f b = _
      by_cases q : b = mT M
      · rw [if_pos q, q, up1_at]
      · rw [if_neg q, up1_no q, up1_no q]
    have eaI : ∀ b, b ≠ mT M → aI M' b = aI M b := fun b hb => by rw [e]; exact if_neg hb
    have eaJ : ∀ b, b ≠ mT M → aJ M' b = aJ M b := fun b hb => by rw [e]; exact if_neg hb
    have egI : gI M' = gI M := by rw [e]; rfl
    have egJ : gJ M' = gJ M := by rw [e]; rfl
    have esR : sR M' = sR M := by rw [e]; rfl
    have emT : mT M' = mT M + 1 := by rw [e]; rfl
    have emS : mS M' = mS M + c := by rw [e]; rfl
    have k23 : kd M' (mT M) = 23 := by rw [ekd, if_pos rfl]
    have gl : gR M' 1 l = some (mT M) := by rw [egR, up2_at]
    have lnd : ln M' (mT M) = c := by rw [eln, if_pos rfl]
    refine ⟨⟨by rw [ekd, if_neg (by omega)]; exact h1, by rw [egI]; exact h2, h8, mT M, gl, by omega, by omega, fun i a hi => by rw [eaR, if_pos rfl]; exact hf i a hi, Or.inl k23⟩, ⟨by omega, by omega, by omega, by omega, esR, egJ, fun a ha => ⟨by rw [ekd, if_neg (by omega)], by rw [eln, if_neg (by omega)], eaI a (by omega), eaJ a (by omega)⟩, fun a ha _ => by rw [eaR, if_neg (by omega)], fun k _ => by rw [egI], fun k hk => funext fun b => by rw [egR, up2_ne (by omega)], fun l' as' hne g => ?_, ?_, ?_, ?_⟩, gl, k23, by omega, egI, ?_⟩
    · obtain ⟨g1, g2, g8, d2, g3, g4, g5, g6, g7⟩ := g
      have hl' : l' < mT M := (hv.2.1 l' (by omega)).2
      have hd2 : d2 < mT M := hLI.1 l' d2 g1 g3
      refine ⟨by rw [ekd, if_neg (by omega)]; exact g1, by rw [egI]; exact g2, g8, d2, by rw [egR, up2_no hne]; exact g3, by rw [eln, if_neg (by omega)]; exact g4, by rw [eln, if_neg (by omega)]; exact g5, fun i a hi => by rw [eaR, if_neg (by omega)]; exact g6 i a hi, ?_⟩
      rw [ekd, if_neg (by omega), eln, if_neg (by omega), esR]
      exact g7
    · intro q dq hq1 hq2
      rw [ekd] at hq1
      rw [egR] at hq2
      split at hq1
      · cases hq1
      · by_cases hql : q = l
        · subst hql
          rw [up2_at] at hq2
          cases hq2
          omega
        · rw [up2_no hql] at hq2
          have := hLI.1 q dq hq1 hq2
          omega
    · intro q q' dq hq1 hq1' hq2 hq2' hq3
      rw [ekd] at hq1 hq1'
      rw [egR] at hq2 hq2'
      split at hq1
      · cases hq1
      · split at hq1'
        · cases hq1'
        · by_cases hql : q = l
          · by_cases hql' : q' = l
            · omega
            · exfalso
              rw [hql, up2_at] at hq2
              rw [up2_no hql'] at hq2'
              cases hq2
              have := hLI.1 q' _ hq1' hq2'
              omega
          · rw [up2_no hql] at hq2
            have hx := hLI.1 q dq hq1 hq2
            by_cases hql' : q' = l
            · exfalso
              rw [hql', up2_at] at hq2'
              cases hq2'
              omega
            · rw [up2_no hql'] at hq2'
              rw [ekd, if_neg (by omega)] at hq3
              exact hLI.2.1 q q' dq hq1 hq1' hq2 hq2' hq3
    · -- checks
      have old : ∀ q dq, kd M' q = 0 → gR M' 1 q = some dq → (q = l ∧ dq = mT M) ∨ (q ≠ l ∧ kd M q = 0 ∧ gR M 1 q = some dq ∧ dq < mT M) := by
        intro q dq hq1 hq2
        rw [ekd] at hq1
        rw [egR] at hq2
        split at hq1
        · cases hq1
        · by_cases hql : q = l
          · rw [hql, up2_at] at hq2
            cases hq2
            exact Or.inl ⟨hql, rfl⟩
          · rw [up2_no hql] at hq2
            exact Or.inr ⟨hql, hq1, hq2, hLI.1 q dq hq1 hq2⟩
      intro q q' dq dq' j j' k hq1 hq1' hq2 hq2' hq3 hq3' ha ha' hk
      rw [eaR] at ha ha'
      rcases old q dq hq1 hq2 with ⟨o1, o2⟩ | ⟨o1, o2, o3, o4⟩
      · rcases old q' dq' hq1' hq2' with ⟨p1, p2⟩ | ⟨p1, p2, p3, p4⟩
        · rw [o2, p2]
        · exfalso
          rw [if_pos o2] at ha
          rw [if_neg (by omega)] at ha'
          rw [ekd, if_neg (by omega)] at hq3'
          obtain ⟨w1, w2⟩ := hfs j k ha
          have hk1 := hv.2.2 d w1 j k w2
          have hk2 := (hv.2.1 k (by omega)).2
          rw [ekd, if_neg (by omega)] at hk
          have w3 := hLI.2.2 l q' d dq' j j' k h1 p2 h3 p3 w1 hq3' w2 ha' hk
          rw [← w3] at p3
          exact p1 (hLI.2.1 q' l d p2 h1 p3 h3 w1)
      · rcases old q' dq' hq1' hq2' with ⟨p1, p2⟩ | ⟨p1, p2, p3, p4⟩
        · exfalso
          rw [if_neg (by omega)] at ha
          rw [if_pos p2] at ha'
          rw [ekd, if_neg (by omega)] at hq3
          obtain ⟨w1, w2⟩ := hfs j' k ha'
          have hk1 := hv.2.2 d w1 j' k w2
          have hk2 := (hv.2.1 k (by omega)).2
          rw [ekd, if_neg (by omega)] at hk
          have w3 := hLI.2.2 q l dq d j j' k o2 h1 o3 h3 hq3 w1 ha w2 hk
          rw [w3] at o3
          exact o1 (hLI.2.1 q l d o2 h1 o3 h3 w1)
        · rw [if_neg (by omega)] at ha ha'
          rw [ekd, if_neg (by omega)] at hq3 hq3'
          have hk1 := hv.2.2 dq hq3 j k ha
          have hk2 := (hv.2.1 k (by omega)).2
          rw [ekd, if_neg (by omega)] at hk
          exact hLI.2.2 q q' dq dq' j j' k o2 p2 o3 p3 hq3 hq3' ha ha' hk
    · intro k hkm hno q dq j hq1 hq2 hq3 ha
      rw [ekd] at hq1
      rw [egR] at hq2
      rw [eaR] at ha
      split at hq1
      · cases hq1
      · by_cases hql : q = l
        · rw [hql, up2_at] at hq2
          cases hq2
          rw [if_pos rfl] at ha
          obtain ⟨w1, w2⟩ := hfs j k ha
          exact hno l d j h1 h3 w1 w2
        · rw [up2_no hql] at hq2
          have := hLI.1 q dq hq1 hq2
          rw [if_neg (by omega)] at ha
          rw [ekd, if_neg (by omega)] at hq3
          exact hno q dq j hq1 hq2 hq3 ha
  -- the two ways
  rcases h7 with h7 | ⟨h7, h9, h10, h11⟩
  · have hk40 : 20 ≤ kd M d ∧ kd M d < 40 := by omega
    by_cases hz : as.length = 0
    · -- no place at all: cannot be, but it does no harm
      have hgr : ¬ gR M 1 l = sR M 3 ∨ gR M 1 l = sR M 3 := (Classical.em _).symm
      rcases hgr with hgr | hgr
      · have e27 : ex 27 4 [pI (nI (ln M d)), pI (gI M 2 l + 1 - nI (ln M d)), pI (nI (ln M d) >>> (1 &&& 31))] M = some (some (pI (nI 1)), M) := by
          rw [h2, hlen, hz, tJ8_newLength_cabcc]
          refine clI_i (show ex 7 2 [pI (nI 1), pI (nI 0)] M = _ from mathMax M (by omega) (by omega)) ?_
          exact it_f (by decide) (it_f (by decide) rfl)
        have e24 : ex 24 4 [pR (some d), pI (nI 1), pR (sR M 5)] M = some (some (pR (some (mT M))), uR (nA M 23 1) (mT M) (va_cpy (aR M d) (fun _ => none) 0 0 0)) := by
          rw [tJ7_copyOf_6403c]
          refine it_t rfl (gd_i (by decide) (bd_i ?_))
          refine al_i (M := nA M 23 1) rfl (by show 20 ≤ (if d = mT M then 23 else kd M d) ∧ (if d = mT M then 23 else kd M d) < 40; rw [if_neg (by omega)]; exact hk40) ?_
          have hl0 : ln (nA M 23 1) d = 0 := by show (if d = mT M then 1 else ln M d) = 0; rw [if_neg (by omega)]; omega
          rw [show (nI 1).toNatClampNeg = 1 from rfl, hl0]
          refine clI_i (mathMin _ (by omega) (by omega)) ?_
          show cpR (some d) 0 (some (mT M)) 0 (nI (min 0 1)) (nA M 23 1) _ = _
          unfold cpR
          have hkd : kd (nA M 23 1) d = 23 := by show (if d = mT M then 23 else kd M d) = 23; rw [if_neg (by omega)]; exact h7
          have hkn : kd (nA M 23 1) (mT M) = 23 := if_pos rfl
          refine it_t ⟨hkd, hkn, by decide, by decide, by decide, by show 0 + 0 ≤ _; omega, by show 0 + 0 ≤ _; omega⟩ ?_
          have er1 : aR (nA M 23 1) d = aR M d := if_neg (by omega)
          have er2 : aR (nA M 23 1) (mT M) = fun _ => none := if_pos rfl
          rw [er1, er2]
          rfl
        refine ⟨mT M, sF (uR (nA M 23 1) (mT M) (va_cpy (aR M d) (fun _ => none) 0 0 0)) 1 l (some (mT M)), ?_, fin 1 (va_cpy (aR M d) (fun _ => none) 0 0 0) _ (by omega) (by omega) (fun i a hi => by rw [List.eq_nil_of_length_eq_zero hz] at hi; cases hi) (fun j k hj => by unfold va_cpy at hj; rw [if_neg (by omega)] at hj; cases hj) rfl⟩
        have e23 : ex 23 2 [pR (gR M 1 l), pI (nI 1)] M = some (some (pR (some (mT M))), uR (nA M 23 1) (mT M) (va_cpy (aR M d) (fun _ => none) 0 0 0)) := by
          rw [h3, tJ7_copyOf_1904c]
          exact rd_i rfl h7 (clR_i e24 rfl)
        have e12 : ex 12 4 [pR (some l), pI (gI M 2 l + 1)] M = some (some (pR (some (mT M))), sF (uR (nA M 23 1) (mT M) (va_cpy (aR M d) (fun _ => none) 0 0 0)) 1 l (some (mT M))) := by
          rw [tJx4a65c_grow_92f84]
          refine rd_i rfl h1 (al_i h3 hk40 (it_f (by rw [hlen, hz]; decide) (rd_i rfl h1 (it_f hgr (clI_i e27 (rd_i rfl h1 (clR_i e23 (rd_i rfl ?_ (bd_i rfl)))))))))
          show (if l = mT M then 23 else kd M l) = 0
          rw [if_neg (by omega)]; exact h1
        rw [tJx4a65c_grow_d5877]
        exact rd_i rfl h1 (rd_i rfl h1 (clR_i e12 rfl))
      · have e7 : ex 7 2 [pI 10, pI (gI M 2 l + 1)] M = some (some (pI (nI 10)), M) := by
          rw [h2, hz]
          exact mathMax (a := 10) (b := 1) M (by omega) (by omega)
        refine ⟨mT M, sF (nA M 23 10) 1 l (some (mT M)), ?_, fin 10 (fun _ => none) _ (by omega) (by omega) (fun i a hi => by rw [List.eq_nil_of_length_eq_zero hz] at hi; cases hi) (fun j k hj => by cases hj) ?_⟩
        · have e12 : ex 12 4 [pR (some l), pI (gI M 2 l + 1)] M = some (some (pR (some (mT M))), sF (nA M 23 10) 1 l (some (mT M))) := by
            rw [tJx4a65c_grow_92f84]
            refine rd_i rfl h1 (al_i h3 hk40 (it_f (by rw [hlen, hz]; decide) (rd_i rfl h1 (it_t hgr (clI_i e7 (gd_i (by decide) (bd_i (rd_i rfl ?_ (bd_i rfl)))))))))
            show (if l = mT M then 23 else kd M l) = 0
            rw [if_neg (by omega)]; exact h1
          rw [tJx4a65c_grow_d5877]
          exact rd_i rfl h1 (rd_i rfl h1 (clR_i e12 rfl))
        · have er : aR (nA M 23 10) (mT M) = fun _ => none := if_pos rfl
          have : uR (nA M 23 10) (mT M) (fun _ => none) = nA M 23 10 := by
            have h0 : up1 (aR (nA M 23 10)) (mT M) (fun _ => none) = aR (nA M 23 10) := by
              funext b
              by_cases q : b = mT M
              · rw [q, up1_at, er]
              · rw [up1_no q]
            show ((_, _, _, _, _, _, _, _, _, up1 (aR (nA M 23 10)) (mT M) (fun _ => none), _) : Mem) = _
            rw [h0]
            rfl
          rw [this]
    · -- a copy, half as large again
      have hc : max 1 (as.length / 2) + as.length ≤ 1502 := by omega
      generalize hcc : as.length + max 1 (as.length / 2) = c at *
      have hc1 : as.length < c := by omega
      have hc2 : c ≤ 1502 := by omega
      have e27 : ex 27 4 [pI (nI (ln M d)), pI (gI M 2 l + 1 - nI (ln M d)), pI (nI (ln M d) >>> (1 &&& 31))] M = some (some (pI (nI c)), M) := by
        rw [h2, hlen, shr1 _ (by omega), nI_1, nI_sub (by omega), show as.length + 1 - as.length = 1 by omega, tJ8_newLength_cabcc]
        refine clI_i (mathMax M (by omega) (by omega)) ?_
        rw [nI_add, hcc]
        exact it_f (nI_nle (by omega) (by omega)) (it_f (fun w => by
          rw [I32_lt, nI_toInt (by omega)] at w
          have : (2147483639 : Int32).toInt = 2147483639 := rfl
          omega) rfl)
      have e24 : ex 24 4 [pR (some d), pI (nI c), pR (sR M 5)] M = some (some (pR (some (mT M))), uR (nA M 23 c) (mT M) (va_cpy (aR M d) (fun _ => none) 0 0 as.length)) := by
        rw [tJ7_copyOf_6403c]
        have hcl : (nI c).toNatClampNeg = c := nI_clamp (by omega)
        refine it_t rfl (gd_i ⟨nI_pos (by omega), by rw [hcl]; omega⟩ (bd_i ?_))
        rw [hcl]
        refine al_i (M := nA M 23 c) rfl (by show 20 ≤ (if d = mT M then 23 else kd M d) ∧ (if d = mT M then 23 else kd M d) < 40; rw [if_neg (by omega)]; exact hk40) ?_
        have hl0 : ln (nA M 23 c) d = as.length := by show (if d = mT M then c else ln M d) = as.length; rw [if_neg (by omega)]; omega
        rw [hl0]
        refine clI_i (mathMin _ (by omega) (by omega)) ?_
        rw [Nat.min_eq_left (by omega)]
        unfold cpR
        have hkd : kd (nA M 23 c) d = 23 := by show (if d = mT M then 23 else kd M d) = 23; rw [if_neg (by omega)]; exact h7
        have hkn : kd (nA M 23 c) (mT M) = 23 := if_pos rfl
        have hln : ln (nA M 23 c) (mT M) = c := if_pos rfl
        have hcl2 : (nI as.length).toNatClampNeg = as.length := nI_clamp (by omega)
        have h00 : (0 : Int32).toNatClampNeg = 0 := rfl
        refine it_t ⟨hkd, hkn, by decide, by decide, nI_pos (by omega), by rw [hcl2, h00, hl0]; omega, by rw [hcl2, h00, hln]; omega⟩ ?_
        have er1 : aR (nA M 23 c) d = aR M d := if_neg (by omega)
        have er2 : aR (nA M 23 c) (mT M) = fun _ => none := if_pos rfl
        rw [er1, er2, hcl2]
        rfl
      refine ⟨mT M, sF (uR (nA M 23 c) (mT M) (va_cpy (aR M d) (fun _ => none) 0 0 as.length)) 1 l (some (mT M)), ?_, fin c (va_cpy (aR M d) (fun _ => none) 0 0 as.length) _ hc1 hc2 (fun i a hi => ?_) (fun j k hj => by
        unfold va_cpy at hj
        split at hj
        · exact ⟨h7, by simpa using hj⟩
        · cases hj) rfl⟩
      · have e23 : ex 23 2 [pR (gR M 1 l), pI (nI c)] M = some (some (pR (some (mT M))), uR (nA M 23 c) (mT M) (va_cpy (aR M d) (fun _ => none) 0 0 as.length)) := by
          rw [h3, tJ7_copyOf_1904c]
          exact rd_i rfl h7 (clR_i e24 rfl)
        have e12 : ex 12 4 [pR (some l), pI (gI M 2 l + 1)] M = some (some (pR (some (mT M))), sF (uR (nA M 23 c) (mT M) (va_cpy (aR M d) (fun _ => none) 0 0 as.length)) 1 l (some (mT M))) := by
          rw [tJx4a65c_grow_92f84]
          refine rd_i rfl h1 (al_i h3 hk40 (it_t (by rw [hlen]; exact nI_lt (a := 0) (by omega) (by omega)) (clI_i e27 (rd_i rfl h1 (clR_i e23 (rd_i rfl ?_ (bd_i rfl)))))))
          show (if l = mT M then 23 else kd M l) = 0
          rw [if_neg (by omega)]; exact h1
        rw [tJx4a65c_grow_d5877]
        exact rd_i rfl h1 (rd_i rfl h1 (clR_i e12 rfl))
      · have hil : i < as.length := (List.getElem?_eq_some_iff.mp hi).1
        unfold va_cpy
        rw [if_pos (by omega)]
        have := h6 i a hi
        simpa using this
  · -- the first row, of ten places
    have hz : as.length = 0 := by rw [h9]; rfl
    have e7 : ex 7 2 [pI 10, pI (gI M 2 l + 1)] M = some (some (pI (nI 10)), M) := by
      rw [h2, hz]
      exact mathMax (a := 10) (b := 1) M (by omega) (by omega)
    refine ⟨mT M, sF (nA M 23 10) 1 l (some (mT M)), ?_, fin 10 (fun _ => none) _ (by omega) (by omega) (fun i a hi => by rw [h9] at hi; cases hi) (fun j k hj => by cases hj) ?_⟩
    · have e12 : ex 12 4 [pR (some l), pI (gI M 2 l + 1)] M = some (some (pR (some (mT M))), sF (nA M 23 10) 1 l (some (mT M))) := by
        rw [tJx4a65c_grow_92f84]
        refine rd_i rfl h1 (al_i h3 (by omega) (it_f (by rw [hlen, hz]; decide) (rd_i rfl h1 (it_t (h3.trans h7.symm) (clI_i e7 (gd_i (by decide) (bd_i (rd_i rfl ?_ (bd_i rfl)))))))))
        show (if l = mT M then 23 else kd M l) = 0
        rw [if_neg (by omega)]; exact h1
      rw [tJx4a65c_grow_d5877]
      exact rd_i rfl h1 (rd_i rfl h1 (clR_i e12 rfl))
    · have er : aR (nA M 23 10) (mT M) = fun _ => none := if_pos rfl
      have : uR (nA M 23 10) (mT M) (fun _ => none) = nA M 23 10 := by
        have h0 : up1 (aR (nA M 23 10)) (mT M) (fun _ => none) = aR (nA M 23 10) := by
          funext b
          by_cases q : b = mT M
          · rw [q, up1_at, er]
          · rw [up1_no q]
        show ((_, _, _, _, _, _, _, _, _, up1 (aR (nA M 23 10)) (mT M) (fun _ => none), _) : Mem) = _
        rw [h0]
        rfl
      rw [this]
/-- two changes of one list, the second without a new row -/
theorem LM.tr {M M1 M2 : Mem} {l : Nat} (h : LM M M1 l) (g : LM M1 M2 l) (e1 : mT M2 = mT M1) (e2 : mS M2 = mS M1) : LM M M2 l := by
  obtain ⟨a1, a2, a3, a4, a5, a6, a7, a8, a9, a10, a11, a12⟩ := h
  obtain ⟨b1, b2, b3, b4, b5, b6, b7, b8, b9, b10, b11, b12⟩ := g
  refine ⟨by omega, by omega, by omega, by omega, b5.trans a5, b6.trans a6, fun a ha => ?_, fun a ha hk => ?_, fun k hk => (b9 k hk).trans (a9 k hk), fun k hk => (b10 k hk).trans (a10 k hk), fun l' as' hne q => b11 l' as' hne (a11 l' as' hne q), b12⟩
  · obtain ⟨x1, x2, x3, x4⟩ := a7 a ha
    obtain ⟨y1, y2, y3, y4⟩ := b7 a (by omega)
    exact ⟨y1.trans x1, y2.trans x2, y3.trans x3, y4.trans x4⟩
  · exact (b8 a (by omega) ((a7 a ha).1.trans hk)).trans (a8 a ha hk)
theorem L_add {M : Mem} {l a base : Nat} {as : List Nat} (hv : PIv base M) (hde : ∀ d, sR M 3 = some d → d < mT M) (hLI : LI M) (h : isL M l as) (hn : as.length ≤ 1001) (ha : 1 ≤ kd M a ∧ kd M a ≤ 10) (hfr : kd M a = 1 → NoL M a) :
    ∃ M', ex 19 2 [pR (some l), pR (some a)] M = some (some (pI 1), M') ∧ isL M' l (as ++ [a]) ∧ LM M M' l := by
  -- modCount goes up
  have h0 : isL (sI M 0 l (gI M 0 l + 1)) l as ∧ LI (sI M 0 l (gI M 0 l + 1)) := ⟨by
    obtain ⟨h1, h2, h8, h9⟩ := h
    exact ⟨h1, (congrFun (up2_ne (f := gI M) (k := 0) (a := l) (j := 2) (v := gI M 0 l + 1) (by omega)) l).trans h2, h8, h9⟩, hLI⟩
  have lm0 : LM M (sI M 0 l (gI M 0 l + 1)) l := by
    refine ⟨Nat.le_refl _, Nat.le_add_right _ _, Nat.le_refl _, Nat.le_add_right _ _, rfl, rfl, fun _ _ => ⟨rfl, rfl, rfl, rfl⟩, fun _ _ _ => rfl, fun k hk => up2_ne (by omega), fun _ _ => rfl, fun l' as' hne g => ?_, hLI⟩
    obtain ⟨g1, g2, g8, g9⟩ := g
    exact ⟨g1, (congrFun (up2_ne (f := gI M) (k := 0) (a := l) (j := 2) (v := gI M 0 l + 1) (by omega)) l').trans g2, g8, g9⟩
  have hl0 : kd M l = 0 := h.1
  generalize hM0 : sI M 0 l (gI M 0 l + 1) = M0 at h0 lm0
  obtain ⟨h, hLI0⟩ := h0
  have hv0 : PIv base M0 := by rw [← hM0]; exact hv
  have hde0 : ∀ d, sR M0 3 = some d → d < mT M0 := by rw [← hM0]; exact hde
  have ha0 : 1 ≤ kd M0 a ∧ kd M0 a ≤ 10 := by rw [← hM0]; exact ha
  have hfr0 : kd M0 a = 1 → NoL M0 a := by rw [← hM0]; exact hfr
  obtain ⟨h1, h2, h8, d, h3, h4, h5, h6, h7⟩ := id h
  have hdT : d < mT M0 := hLI0.1 l d h1 h3
  have hk40 : 20 ≤ kd M0 d ∧ kd M0 d < 40 := by rcases h7 with h7 | ⟨-, -, -, h7⟩ <;> omega
  -- writing behind the others
  have wr : ∀ (M1 : Mem) (d1 : Nat), isL M1 l as → LI M1 → gR M1 1 l = some d1 → kd M1 d1 = 23 → as.length < ln M1 d1 → (kd M1 a = 1 → NoL M1 a) →
      isL (sI (wR M1 d1 as.length (some a)) 2 l (nI as.length + 1)) l (as ++ [a]) ∧ LM M1 (sI (wR M1 d1 as.length (some a)) 2 l (nI as.length + 1)) l := by
    intro M1 d1 g hL1 gd gk gl hfr1
    obtain ⟨g1, g2, g8, d2, g3, g4, g5, g6, g7⟩ := id g
    rw [gd] at g3
    cases g3
    refine LM_of hL1 g gd gk (up1 (aR M1 d1) as.length (some a)) (by rw [List.length_append]; simp only [List.length_cons, List.length_nil]; omega) (by rw [List.length_append]; simp only [List.length_cons, List.length_nil]; omega) (fun i b hi => ?_) (fun j k hj hk => by
        by_cases e : j = as.length
        · rw [e, up1_at] at hj
          cases hj
          exact Or.inr (hfr1 hk)
        · rw [up1_no e] at hj
          exact Or.inl ⟨j, hj⟩) rfl rfl rfl rfl rfl rfl rfl rfl rfl (fun k hk => up2_ne (by omega)) ?_ (fun l' hne => up2_no hne) (fun b => rfl)
    · by_cases e : i < as.length
      · rw [List.getElem?_append_left e] at hi
        rw [up1_no (by omega)]
        exact g6 i b hi
      · rw [List.getElem?_append_right (by omega)] at hi
        have : i - as.length < 1 := (List.getElem?_eq_some_iff.mp hi).1
        rw [show i - as.length = 0 by omega] at hi
        cases hi
        rw [show i = as.length by omega, up1_at]
    · show up2 (gI M1) 2 l (nI as.length + 1) 2 l = _
      rw [up2_at, List.length_append, nI_1]
      rfl
  have key : ∃ M', ex 18 4 [pR (some l), pR (some a), pR (gR M0 1 l), pI (gI M0 2 l)] M0 = some (none, M') ∧ isL M' l (as ++ [a]) ∧ LM M0 M' l := by
    rw [h3, h2, tJx4a65c_add_72be8]
    by_cases hf : as.length = ln M0 d
    · obtain ⟨d1, M1, hg, g1, g2, g3, g4, g5, g6, g7⟩ := L_grow hv0 hde0 hLI0 h hn (fun q hq => by rw [h3] at hq; cases hq; exact hf.symm)
      have hLI1 : LI M1 := g2.2.2.2.2.2.2.2.2.2.2.2
      have hk1 : kd M1 l = 0 := g1.1
      have haT : a < mT M0 := (hv0.2.1 a (by omega)).2
      have ha1 : 1 ≤ kd M1 a ∧ kd M1 a ≤ 10 := by rw [(g2.2.2.2.2.2.2.1 a haT).1]; exact ha0
      obtain ⟨w1, w2⟩ := wr M1 d1 g1 hLI1 g3 g4 g5 (fun z => g7 a (by omega) (hfr0 (by rw [← (g2.2.2.2.2.2.2.1 a haT).1]; exact z)))
      refine ⟨_, al_i rfl hk40 (it_f (not_not_intro (by rw [hf])) (rd_i rfl h1 (clR_i hg (ix_i rfl (Or.inl g4) rfl g5 (by omega) (st_i (Or.inl ⟨g4, ha1⟩) (bd_i (rd_i rfl hk1 (bd_i rfl)))))))), w1, ?_⟩
      exact g2.tr w2 rfl rfl
    · have hk23 : kd M0 d = 23 := by
        rcases h7 with h7 | ⟨-, h7, h9, -⟩
        · exact h7
        · exact absurd (by rw [h7, h9]; rfl) hf
      obtain ⟨w1, w2⟩ := wr M0 d h hLI0 h3 hk23 (by omega) hfr0
      exact ⟨_, al_i rfl hk40 (it_t (fun q => hf (nI_inj (by omega) (by omega) q)) (ix_i rfl (Or.inl hk23) rfl (by omega) (by omega) (st_i (Or.inl ⟨hk23, ha0⟩) (bd_i (rd_i rfl h1 (bd_i rfl)))))), w1, w2⟩
  obtain ⟨M', k1, k2, k3⟩ := key
  refine ⟨M', ?_, k2, ?_⟩
  · rw [tJx4a65c_add_9ea2d]
    refine rd_i rfl hl0 (rd_i rfl hl0 (bd_i ?_))
    rw [hM0]
    exact rd_i rfl h1 (rd_i rfl h1 (rd_i rfl h1 (clV_i k1 (zo_i (Or.inr rfl) rfl))))
  · -- the first step made nothing new
    obtain ⟨a1, a2, a3, a4, a5, a6, a7, a8, a9, a10, a11, a12⟩ := lm0
    obtain ⟨b1, b2, b3, b4, b5, b6, b7, b8, b9, b10, b11, b12⟩ := k3
    have e1 : mT M0 = mT M := by rw [← hM0]; rfl
    have e2 : mS M0 = mS M := by rw [← hM0]; rfl
    refine ⟨by omega, by omega, by omega, by omega, b5.trans a5, b6.trans a6, fun a ha => ?_, fun a ha hk => ?_, fun k hk => (b9 k hk).trans (a9 k hk), fun k hk => (b10 k hk).trans (a10 k hk), fun l' as' hne q => b11 l' as' hne (a11 l' as' hne q), b12⟩
    · obtain ⟨x1, x2, x3, x4⟩ := a7 a ha
      obtain ⟨y1, y2, y3, y4⟩ := b7 a (by omega)
      exact ⟨y1.trans x1, y2.trans x2, y3.trans x3, y4.trans x4⟩
    · exact (b8 a (by omega) ((a7 a ha).1.trans hk)).trans (a8 a ha hk)
theorem L_remove {M : Mem} {l i : Nat} {as : List Nat} (hLI : LI M) (h : isL M l as) (hi : i < as.length) :
    ∃ v M', ex 20 4 [pR (some l), pI (nI i)] M = some (some (pR v), M') ∧ isL M' l (as.eraseIdx i) ∧ LM M M' l ∧ mT M' = mT M ∧ mS M' = mS M := by
  obtain ⟨d, h3, h4, h5, h6, h7⟩ := h.row hi
  obtain ⟨h1, h2, h8, -⟩ := id h
  have hlen : (as.eraseIdx i).length = as.length - 1 := List.length_eraseIdx_of_lt hi
  have e2 := chkIdx M hi (by omega)
  have hs1 : nI as.length - 1 = nI (as.length - 1) := nI_sub (b := 1) (by omega)
  have hg2 : gI (sI M 0 l (gI M 0 l + 1)) 2 l = nI as.length := (congrFun (up2_ne (f := gI M) (k := 0) (a := l) (j := 2) (v := gI M 0 l + 1) (by omega)) l).trans h2
  -- what the row holds then
  have fin : ∀ (f : Nat → Option Nat) (M' : Mem), (∀ j, j < as.length - 1 → f j = if j < i then aR M d j else aR M d (j + 1)) → (∀ j k, f j = some k → ∃ j', aR M d j' = some k) → (∀ k b, gI M' k b = up2 (up2 (gI M) 0 l (gI M 0 l + 1)) 2 l (nI (as.length - 1)) k b) → mT M' = mT M → mS M' = mS M → sR M' = sR M → gJ M' = gJ M → kd M' = kd M → ln M' = ln M → aI M' = aI M → aJ M' = aJ M → gR M' = gR M → (∀ b, aR M' b = if b = d then f else aR M b) →
      isL M' l (as.eraseIdx i) ∧ LM M M' l ∧ mT M' = mT M ∧ mS M' = mS M := by
    intro f M' hf hfs eI a1 a2 a3 a4 a5 a6 a7 a8 a9 a10
    obtain ⟨g1, g2⟩ := LM_of (M' := M') (as2 := as.eraseIdx i) hLI h h3 h7 f (by omega) (by omega) (fun j b hj => by
        have hjl : j < (as.eraseIdx i).length := (List.getElem?_eq_some_iff.mp hj).1
        rw [List.getElem?_eraseIdx] at hj
        rw [hf j (by omega)]
        by_cases e : j < i
        · rw [if_pos e] at hj
          rw [if_pos e]
          exact h6 j b hj
        · rw [if_neg e] at hj
          rw [if_neg e]
          exact h6 (j + 1) b hj) (fun j k hj _ => Or.inl (hfs j k hj)) a1 a2 a3 a4 a5 a6 a7 a8 a9 (fun k hk => funext fun b => by rw [eI, up2_ne (by omega), up2_ne (by omega)]) (by rw [eI, up2_at, hlen]) (fun l' hne => by rw [eI, up2_no hne, up2_no hne]) a10
    exact ⟨g1, g2, a1, a2⟩
  have key : ∃ M', ex 21 4 [pR (some l), pR (gR M 1 l), pI (nI i)] M = some (none, M') ∧ isL M' l (as.eraseIdx i) ∧ LM M M' l ∧ mT M' = mT M ∧ mS M' = mS M := by
    rw [h3, tJx4a65c_fastRemove_b59b0]
    by_cases hlast : as.length - 1 ≤ i
    · refine ⟨wR (sI (sI M 0 l (gI M 0 l + 1)) 2 l (nI (as.length - 1))) d (as.length - 1) none, ?_, fin (up1 (aR M d) (as.length - 1) none) _ (fun j hj => by rw [up1_no (by omega), if_pos (by omega)]) (fun j k hj => by
        by_cases e : j = as.length - 1
        · rw [e, up1_at] at hj; cases hj
        · rw [up1_no e] at hj; exact ⟨j, hj⟩) (fun k b => rfl) rfl rfl rfl rfl rfl rfl rfl rfl rfl (fun b => rfl)⟩
      refine rd_i rfl h1 (rd_i rfl h1 (bd_i (rd_i rfl h1 ?_)))
      rw [hg2, hs1]
      exact it_t (nI_le hlast (by omega)) (rd_i rfl h1 (bd_i (ix_i rfl (Or.inl h7) rfl (show as.length - 1 < ln M d by omega) (by omega) (st_i trivial (bd_i rfl)))))
    · refine ⟨wR (sI (uR (sI M 0 l (gI M 0 l + 1)) d (va_cpy (aR M d) (aR M d) (i + 1) i (as.length - 1 - i))) 2 l (nI (as.length - 1))) d (as.length - 1) none, ?_, fin (up1 (va_cpy (aR M d) (aR M d) (i + 1) i (as.length - 1 - i)) (as.length - 1) none) _ (fun j hj => ?_) (fun j k hj => by
        by_cases e : j = as.length - 1
        · rw [e, up1_at] at hj; cases hj
        · rw [up1_no e] at hj
          unfold va_cpy at hj
          split at hj
          · exact ⟨_, hj⟩
          · exact ⟨_, hj⟩) (fun k b => rfl) rfl rfl rfl rfl rfl rfl rfl rfl rfl (fun b => ?_)⟩
      · refine rd_i rfl h1 (rd_i rfl h1 (bd_i (rd_i rfl h1 ?_)))
        rw [hg2, hs1]
        refine it_f (fun q => by rw [I32_le, nI_toInt (by omega), nI_toInt (by omega)] at q; omega) ?_
        rw [nI_1, nI_sub (by omega)]
        unfold cpR
        have c1 : (nI (i + 1)).toNatClampNeg = i + 1 := nI_clamp (by omega)
        have c2 : (nI i).toNatClampNeg = i := nI_clamp (by omega)
        have c3 : (nI (as.length - 1 - i)).toNatClampNeg = as.length - 1 - i := nI_clamp (by omega)
        refine it_t ⟨h7, h7, nI_pos (by omega), nI_pos (by omega), nI_pos (by omega), ?_, ?_⟩ ?_
        · rw [c1, c3]
          show _ ≤ ln M d
          omega
        · rw [c2, c3]
          show _ ≤ ln M d
          omega
        · rw [c1, c2, c3]
          refine rd_i rfl h1 (bd_i (ix_i rfl (Or.inl h7) rfl (show as.length - 1 < ln M d by omega) (by omega) (st_i trivial (bd_i rfl))))
      · rw [up1_no (by omega)]
        unfold va_cpy
        by_cases e : j < i
        · rw [if_neg (by omega), if_pos e]
        · rw [if_pos (by omega), if_neg e, show i + 1 + (j - i) = j + 1 by omega]
      · show up1 (up1 (aR M) d (va_cpy (aR M d) (aR M d) (i + 1) i (as.length - 1 - i))) d (up1 (up1 (aR M) d (va_cpy (aR M d) (aR M d) (i + 1) i (as.length - 1 - i)) d) (as.length - 1) none) b = _
        rw [up1_at]
        by_cases e : b = d
        · rw [if_pos e, e, up1_at]
        · rw [if_neg e, up1_no e, up1_no e]
  obtain ⟨M', k1, k2⟩ := key
  refine ⟨aR M d i, M', ?_, k2⟩
  rw [tJx4a65c_remove_915e3]
  refine rd_i rfl h1 ?_
  rw [h2]
  exact clI_i e2 (rd_i rfl h1 (ix_i h3 (Or.inl h7) rfl (by omega) (by omega) (rd_i rfl h1 (clV_i k1 rfl))))
