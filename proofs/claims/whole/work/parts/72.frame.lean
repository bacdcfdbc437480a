/-! WHAT A RUN LEAVES AS IT WAS: K keys of fields, L lists, AI, AJ rows of ints and longs that it may have changed; n: at most n cells are new -/
def Fr (base : Nat) (K L AI AJ : Nat → Prop) (n : Nat) (M M' : Mem) : Prop :=
  (mT M ≤ mT M' ∧ mT M' ≤ mT M + n ∧ mS M ≤ mS M' ∧ mS M' ≤ mS M + 64 * n ∧ sR M' = sR M) ∧ (PIv base M ∧ PIv base M') ∧ LI M' ∧
  (∀ a, a < mT M → kd M' a = kd M a ∧ ln M' a = ln M a ∧ (kd M a = 24 → aR M' a = aR M a)) ∧
  (∀ k a, 3 ≤ k → a < mT M → ¬ K k → gI M' k a = gI M k a ∧ gJ M' k a = gJ M k a ∧ gR M' k a = gR M k a) ∧
  (∀ a, a < mT M → ¬ AI a → aI M' a = aI M a) ∧ (∀ a, a < mT M → ¬ AJ a → aJ M' a = aJ M a) ∧
  (∀ l as, ¬ L l → isL M l as → isL M' l as)
abbrev No : Nat → Prop := fun _ => False
section FR
variable {base : Nat} {K L AI AJ : Nat → Prop} {n : Nat} {M M1 M2 : Mem}
theorem Fr.rf (hv : PIv base M) (hL : LI M) : Fr base K L AI AJ 0 M M := ⟨⟨Nat.le_refl _, Nat.le_refl _, Nat.le_refl _, Nat.le_refl _, rfl⟩, ⟨hv, hv⟩, hL, fun _ _ => ⟨rfl, rfl, fun _ => rfl⟩, fun _ _ _ _ _ => ⟨rfl, rfl, rfl⟩, fun _ _ _ => rfl, fun _ _ _ => rfl, fun _ _ _ h => h⟩
theorem Fr.tr {n2 : Nat} (h : Fr base K L AI AJ n M M1) (g : Fr base K L AI AJ n2 M1 M2) : Fr base K L AI AJ (n + n2) M M2 := by
  obtain ⟨⟨a1, a2, a3, a4, a5⟩, b, c, d, e, f, i, j⟩ := h
  obtain ⟨⟨a1', a2', a3', a4', a5'⟩, b', c', d', e', f', i', j'⟩ := g
  refine ⟨⟨by omega, by omega, by omega, by omega, a5'.trans a5⟩, ⟨b.1, b'.2⟩, c', fun a ha => ?_, fun k a hk ha hn => ?_, fun a ha hn => (f' a (by omega) hn).trans (f a ha hn), fun a ha hn => (i' a (by omega) hn).trans (i a ha hn), fun l as hn hl => j' l as hn (j l as hn hl)⟩
  · obtain ⟨x1, x2, x3⟩ := d a ha
    obtain ⟨y1, y2, y3⟩ := d' a (by omega)
    exact ⟨y1.trans x1, y2.trans x2, fun h24 => (y3 (x1.trans h24)).trans (x3 h24)⟩
  · obtain ⟨x1, x2, x3⟩ := e k a hk ha hn
    obtain ⟨y1, y2, y3⟩ := e' k a hk (by omega) hn
    exact ⟨y1.trans x1, y2.trans x2, y3.trans x3⟩
theorem Fr.mo {K' L' AI' AJ' : Nat → Prop} {n' : Nat} (h : Fr base K L AI AJ n M M1) (hn : n ≤ n') (hK : ∀ k, K k → K' k) (hL : ∀ k, L k → L' k) (hI : ∀ k, AI k → AI' k) (hJ : ∀ k, AJ k → AJ' k) : Fr base K' L' AI' AJ' n' M M1 := by
  obtain ⟨⟨a1, a2, a3, a4, a5⟩, b, c, d, e, f, i, j⟩ := h
  exact ⟨⟨a1, by omega, a3, by omega, a5⟩, b, c, d, fun k a hk ha hn => e k a hk ha (fun q => hn (hK k q)), fun a ha hn => f a ha (fun q => hn (hI a q)), fun a ha hn => i a ha (fun q => hn (hJ a q)), fun l as hn hl => j l as (fun q => hn (hL l q)) hl⟩
theorem Fr.v (h : Fr base K L AI AJ n M M1) : PIv base M1 := h.2.1.2
theorem Fr.v0 (h : Fr base K L AI AJ n M M1) : PIv base M := h.2.1.1
theorem Fr.li (h : Fr base K L AI AJ n M M1) : LI M1 := h.2.2.1
theorem Fr.fk (h : Fr base K L AI AJ n M M1) {a : Nat} (ha : a < mT M) : kd M1 a = kd M a := (h.2.2.2.1 a ha).1
theorem Fr.fl (h : Fr base K L AI AJ n M M1) {a : Nat} (ha : a < mT M) : ln M1 a = ln M a := (h.2.2.2.1 a ha).2.1
theorem Fr.fq (h : Fr base K L AI AJ n M M1) {a : Nat} (ha : a < mT M) (hk : kd M a = 24) : aR M1 a = aR M a := (h.2.2.2.1 a ha).2.2 hk
theorem Fr.fI (h : Fr base K L AI AJ n M M1) {k a : Nat} (hk : 3 ≤ k) (ha : a < mT M) (hn : ¬ K k) : gI M1 k a = gI M k a := (h.2.2.2.2.1 k a hk ha hn).1
theorem Fr.fJ (h : Fr base K L AI AJ n M M1) {k a : Nat} (hk : 3 ≤ k) (ha : a < mT M) (hn : ¬ K k) : gJ M1 k a = gJ M k a := (h.2.2.2.2.1 k a hk ha hn).2.1
theorem Fr.fR (h : Fr base K L AI AJ n M M1) {k a : Nat} (hk : 3 ≤ k) (ha : a < mT M) (hn : ¬ K k) : gR M1 k a = gR M k a := (h.2.2.2.2.1 k a hk ha hn).2.2
theorem Fr.eI (h : Fr base K L AI AJ n M M1) {a : Nat} (ha : a < mT M) (hn : ¬ AI a) : aI M1 a = aI M a := h.2.2.2.2.2.1 a ha hn
theorem Fr.eJ (h : Fr base K L AI AJ n M M1) {a : Nat} (ha : a < mT M) (hn : ¬ AJ a) : aJ M1 a = aJ M a := h.2.2.2.2.2.2.1 a ha hn
theorem Fr.ls (h : Fr base K L AI AJ n M M1) {l : Nat} (hn : ¬ L l) : ∀ as, isL M l as → isL M1 l as := fun as => h.2.2.2.2.2.2.2 l as hn
theorem Fr.fT (h : Fr base K L AI AJ n M M1) : mT M ≤ mT M1 := h.1.1
theorem Fr.fs (h : Fr base K L AI AJ n M M1) : sR M1 = sR M := h.1.2.2.2.2
theorem lt_of_kd {a c : Nat} (hv : PIv base M) (h : kd M a = c) (hc : c ≤ 24) : a < mT M := (hv.2.1 a (by omega)).2
theorem isL.lt {l : Nat} {as : List Nat} (hv : PIv base M) (h : isL M l as) : l < mT M := lt_of_kd hv h.1 (by omega)
-- one write more
theorem Fr.bI {k a : Nat} {v : Int32} (h : Fr base K L AI AJ n M M1) (hk : (3 ≤ k ∧ K k) ∨ mT M ≤ a) : Fr base K L AI AJ n M (sI M1 k a v) := by
  obtain ⟨a1, b, c, d, e, f, i, j⟩ := h
  refine ⟨a1, b, c, d, fun k' a' hk' ha' hn => ?_, f, i, fun l as hn hl => ?_⟩
  · obtain ⟨x1, x2, x3⟩ := e k' a' hk' ha' hn
    refine ⟨?_, x2, x3⟩
    show up2 (gI M1) k a v k' a' = _
    rcases hk with ⟨-, hk⟩ | hk
    · rw [up2_ne (fun q : k' = k => hn (by rw [q]; exact hk))]; exact x1
    · rw [up2_no (by omega)]; exact x1
  · have hll := hl.lt b.1
    obtain ⟨g1, g2, g3⟩ := j l as hn hl
    refine ⟨g1, ?_, g3⟩
    show up2 (gI M1) k a v 2 l = _
    rcases hk with ⟨hk, -⟩ | hk
    · rw [up2_ne (by omega)]; exact g2
    · rw [up2_no (by omega)]; exact g2
theorem Fr.bJ {k a : Nat} {v : Int64} (h : Fr base K L AI AJ n M M1) (hk : (3 ≤ k ∧ K k) ∨ mT M ≤ a) : Fr base K L AI AJ n M (sJ M1 k a v) := by
  obtain ⟨a1, b, c, d, e, f, i, j⟩ := h
  refine ⟨a1, b, c, d, fun k' a' hk' ha' hn => ?_, f, i, j⟩
  obtain ⟨x1, x2, x3⟩ := e k' a' hk' ha' hn
  refine ⟨x1, ?_, x3⟩
  show up2 (gJ M1) k a v k' a' = _
  rcases hk with ⟨-, hk⟩ | hk
  · rw [up2_ne (fun q : k' = k => hn (by rw [q]; exact hk))]; exact x2
  · rw [up2_no (by omega)]; exact x2
theorem Fr.bF {k a : Nat} {v : Option Nat} (h : Fr base K L AI AJ n M M1) (hk : (3 ≤ k ∧ K k) ∨ (mT M ≤ a ∧ (3 ≤ k ∨ kd M1 a ≠ 0 ∨ (v = sR M1 3 ∧ ∀ d, sR M1 3 = some d → d < mT M1 ∧ kd M1 d ≠ 23)))) : Fr base K L AI AJ n M (sF M1 k a v) := by
  obtain ⟨a1, b, c, d, e, f, i, j⟩ := h
  have hLI : LI (sF M1 k a v) := by
    by_cases hk1 : k = 1
    · subst hk1
      rcases hk with ⟨hk, -⟩ | ⟨-, hk⟩
      · omega
      · rcases hk with hk | hk | ⟨hk, hd⟩
        · omega
        · have back : ∀ l d, kd M1 l = 0 → gR (sF M1 1 a v) 1 l = some d → gR M1 1 l = some d := fun l d hl hg => by
            have hg : up2 (gR M1) 1 a v 1 l = some d := hg
            rw [up2_no (fun q => by subst q; exact hk hl)] at hg
            exact hg
          exact ⟨fun l d hl hg => c.1 l d hl (back l d hl hg), fun l l' d hl hl' hg hg' h23 => c.2.1 l l' d hl hl' (back l d hl hg) (back l' d hl' hg') h23, fun l l' d d' j j' k hl hl' hg hg' h23 h23' r1 r2 hkk => c.2.2 l l' d d' j j' k hl hl' (back l d hl hg) (back l' d' hl' hg') h23 h23' r1 r2 hkk⟩
        · have back : ∀ l d, gR (sF M1 1 a v) 1 l = some d → kd M1 d = 23 → gR M1 1 l = some d := fun l d hg h23 => by
            have hg : up2 (gR M1) 1 a v 1 l = some d := hg
            by_cases q : l = a
            · subst q
              rw [up2_at, hk] at hg
              exact absurd h23 (hd d hg).2
            · rw [up2_no q] at hg
              exact hg
          refine ⟨fun l d hl hg => ?_, fun l l' d hl hl' hg hg' h23 => c.2.1 l l' d hl hl' (back l d hg h23) (back l' d hg' h23) h23, fun l l' d d' j j' k hl hl' hg hg' h23 h23' r1 r2 hkk => c.2.2 l l' d d' j j' k hl hl' (back l d hg h23) (back l' d' hg' h23') h23 h23' r1 r2 hkk⟩
          have hg : up2 (gR M1) 1 a v 1 l = some d := hg
          by_cases q : l = a
          · subst q
            rw [up2_at, hk] at hg
            exact (hd d hg).1
          · rw [up2_no q] at hg
            exact c.1 l d hl hg
    · have e1 : gR (sF M1 k a v) 1 = gR M1 1 := up2_ne (fun q => hk1 q.symm)
      unfold LI CI
      rw [e1]
      exact c
  refine ⟨a1, b, hLI, d, fun k' a' hk' ha' hn => ?_, f, i, fun l as hn hl => ?_⟩
  · obtain ⟨x1, x2, x3⟩ := e k' a' hk' ha' hn
    refine ⟨x1, x2, ?_⟩
    show up2 (gR M1) k a v k' a' = _
    rcases hk with ⟨-, hk⟩ | ⟨hk, -⟩
    · rw [up2_ne (fun q : k' = k => hn (by rw [q]; exact hk))]; exact x3
    · rw [up2_no (by omega)]; exact x3
  · have hll := hl.lt b.1
    obtain ⟨g1, g2, g3, dd, g4, g5⟩ := j l as hn hl
    refine ⟨g1, g2, g3, dd, ?_, g5⟩
    show up2 (gR M1) k a v 1 l = _
    rcases hk with ⟨hk, -⟩ | ⟨hk, -⟩
    · rw [up2_ne (by omega)]; exact g4
    · rw [up2_no (by omega)]; exact g4
theorem Fr.bAI {a : Nat} {g : Nat → Int32} (h : Fr base K L AI AJ n M M1) (hk : AI a ∨ mT M ≤ a) : Fr base K L AI AJ n M (uI M1 a g) := by
  obtain ⟨a1, b, c, d, e, f, i, j⟩ := h
  refine ⟨a1, b, c, d, e, fun a' ha' hn => ?_, i, j⟩
  show up1 (aI M1) a g a' = _
  rw [up1_no (fun q => by rcases hk with hk | hk; exact hn (q ▸ hk); omega)]
  exact f a' ha' hn
theorem Fr.bAJ {a : Nat} {g : Nat → Int64} (h : Fr base K L AI AJ n M M1) (hk : AJ a ∨ mT M ≤ a) : Fr base K L AI AJ n M (uJ M1 a g) := by
  obtain ⟨a1, b, c, d, e, f, i, j⟩ := h
  refine ⟨a1, b, c, d, e, f, fun a' ha' hn => ?_, j⟩
  show up1 (aJ M1) a g a' = _
  rw [up1_no (fun q => by rcases hk with hk | hk; exact hn (q ▸ hk); omega)]
  exact i a' ha' hn
/-- a row of references of kind 24 that is new -/
theorem Fr.bAR {a : Nat} {g : Nat → Option Nat} (h : Fr base K L AI AJ n M M1) (hk : mT M ≤ a) (h24 : kd M1 a = 24) : Fr base K L AI AJ n M (uR M1 a g) := by
  obtain ⟨a1, b, c, d, e, f, i, j⟩ := h
  have hv : PIv base (uR M1 a g) := (k_uR base M1 a g (by omega) (fun _ q => by omega)).2 b.2
  have hLI : LI (uR M1 a g) := by
    refine ⟨c.1, c.2.1, fun l l' d d' j j' k hl hl' hg hg' h23 h23' r1 r2 hkk => ?_⟩
    have r1 : up1 (aR M1) a g d j = some k := r1
    have r2 : up1 (aR M1) a g d' j' = some k := r2
    have q1 : kd M1 d = 23 := h23
    have q2 : kd M1 d' = 23 := h23'
    rw [up1_no (fun z => by rw [z] at q1; omega)] at r1
    rw [up1_no (fun z => by rw [z] at q2; omega)] at r2
    exact c.2.2 l l' d d' j j' k hl hl' hg hg' h23 h23' r1 r2 hkk
  refine ⟨a1, ⟨b.1, hv⟩, hLI, fun a' ha' => ⟨(d a' ha').1, (d a' ha').2.1, fun q => ?_⟩, e, f, i, fun l as hn hl => ?_⟩
  · show up1 (aR M1) a g a' = _
    rw [up1_no (by omega)]
    exact (d a' ha').2.2 q
  · obtain ⟨g1, g2, g3, dd, g4, g5, g6, g7, g8⟩ := j l as hn hl
    refine ⟨g1, g2, g3, dd, g4, g5, g6, fun x y hx => ?_, g8⟩
    show up1 (aR M1) a g dd x = _
    by_cases q : dd = a
    · rcases g8 with g8 | ⟨-, -, -, g8⟩
      · rw [q] at g8; omega
      · rw [q] at g8; omega
    · rw [up1_no q]; exact g7 x y hx
theorem Fr.bO {c0 n0 : Nat} (h : Fr base K L AI AJ n M M1) (hc : c0 ≤ 12) (hn0 : n0 ≤ 64) : Fr base K L AI AJ (n + 1) M (nO M1 c0 n0) := by
  obtain ⟨⟨a1, a2, a3, a4, a5⟩, b, c, d, e, f, i, j⟩ := h
  have hk : ∀ b, kd (nO M1 c0 n0) b = if b = mT M1 then c0 else kd M1 b := fun b => rfl
  have hv : PIv base (nO M1 c0 n0) := (k_nO base M1 c0 n0 hc).2 b.2
  have hR : ∀ k b, gR (nO M1 c0 n0) k b = if b = mT M1 then none else gR M1 k b := fun k b => rfl
  have hI : ∀ k b, gI (nO M1 c0 n0) k b = if b = mT M1 then 0 else gI M1 k b := fun k b => rfl
  have hJ : ∀ k b, gJ (nO M1 c0 n0) k b = if b = mT M1 then 0 else gJ M1 k b := fun k b => rfl
  have e1 : mT (nO M1 c0 n0) = mT M1 + 1 := rfl
  have e2 : mS (nO M1 c0 n0) = mS M1 + n0 := rfl
  have hLI : LI (nO M1 c0 n0) := by
    refine ⟨fun l d hl hg => ?_, fun l l' d hl hl' hg hg' h23 => ?_, fun l l' d d' j j' k hl hl' hg hg' h23 h23' r1 r2 hkk => ?_⟩
    · rw [hR] at hg
      split at hg
      · cases hg
      · rename_i q
        rw [hk, if_neg q] at hl
        have := c.1 l d hl hg
        omega
    · rw [hR] at hg hg'
      split at hg
      · cases hg
      · rename_i q
        split at hg'
        · cases hg'
        · rename_i q'
          rw [hk, if_neg q] at hl
          rw [hk, if_neg q'] at hl'
          have := c.1 l d hl hg
          rw [hk, if_neg (by omega)] at h23
          exact c.2.1 l l' d hl hl' hg hg' h23
    · rw [hR] at hg hg'
      split at hg
      · cases hg
      · rename_i q
        split at hg'
        · cases hg'
        · rename_i q'
          rw [hk, if_neg q] at hl
          rw [hk, if_neg q'] at hl'
          have t1 := c.1 l d hl hg
          have t2 := c.1 l' d' hl' hg'
          rw [hk, if_neg (by omega)] at h23 h23'
          have r1 : aR M1 d j = some k := r1
          have w1 := b.2.2.2 d h23 j k r1
          have w2 := (b.2.2.1 k (by omega)).2
          rw [hk, if_neg (by omega)] at hkk
          exact c.2.2 l l' d d' j j' k hl hl' hg hg' h23 h23' r1 r2 hkk
  refine ⟨⟨by omega, by omega, by omega, by omega, a5⟩, ⟨b.1, hv⟩, hLI, fun a ha => ⟨by rw [hk, if_neg (by omega)]; exact (d a ha).1, (d a ha).2.1, (d a ha).2.2⟩, fun k a h3 ha hn => ?_, f, i, fun l as hn hl => ?_⟩
  · obtain ⟨x1, x2, x3⟩ := e k a h3 ha hn
    refine ⟨by rw [hI, if_neg (by omega)]; exact x1, by rw [hJ, if_neg (by omega)]; exact x2, by rw [hR, if_neg (by omega)]; exact x3⟩
  · have g := j l as hn hl
    have hl1 := g.lt b.2
    obtain ⟨g1, g2, g3, dd, g4, g5, g6, g7, g8⟩ := g
    have hd1 := c.1 l dd g1 g4
    refine ⟨by rw [hk, if_neg (by omega)]; exact g1, by rw [hI, if_neg (by omega)]; exact g2, g3, dd, by rw [hR, if_neg (by omega)]; exact g4, g5, g6, g7, by rw [hk, if_neg (by omega)]; exact g8⟩
theorem Fr.bA {c0 n0 : Nat} (h : Fr base K L AI AJ n M M1) (hc : 20 ≤ c0) (hc2 : c0 ≤ 24) (hn0 : n0 ≤ 64) : Fr base K L AI AJ (n + 1) M (nA M1 c0 n0) := by
  obtain ⟨⟨a1, a2, a3, a4, a5⟩, b, c, d, e, f, i, j⟩ := h
  have hk : ∀ b, kd (nA M1 c0 n0) b = if b = mT M1 then c0 else kd M1 b := fun b => rfl
  have hn : ∀ b, ln (nA M1 c0 n0) b = if b = mT M1 then n0 else ln M1 b := fun b => rfl
  have hv : PIv base (nA M1 c0 n0) := (k_nA base M1 c0 n0 hc hc2).2 b.2
  have hR : ∀ b, aR (nA M1 c0 n0) b = if b = mT M1 then (fun _ => none) else aR M1 b := fun b => rfl
  have hI : ∀ b, aI (nA M1 c0 n0) b = if b = mT M1 then (fun _ => 0) else aI M1 b := fun b => rfl
  have hJ : ∀ b, aJ (nA M1 c0 n0) b = if b = mT M1 then (fun _ => 0) else aJ M1 b := fun b => rfl
  have e1 : mT (nA M1 c0 n0) = mT M1 + 1 := rfl
  have e2 : mS (nA M1 c0 n0) = mS M1 + n0 := rfl
  have hLI : LI (nA M1 c0 n0) := by
    refine ⟨fun l d hl hg => ?_, fun l l' d hl hl' hg hg' h23 => ?_, fun l l' d d' j j' k hl hl' hg hg' h23 h23' r1 r2 hkk => ?_⟩
    · rw [hk] at hl
      split at hl
      · omega
      · have := c.1 l d hl hg
        omega
    · rw [hk] at hl hl' h23
      split at hl
      · omega
      · split at hl'
        · omega
        · have := c.1 l d hl hg
          rw [if_neg (by omega)] at h23
          exact c.2.1 l l' d hl hl' hg hg' h23
    · rw [hk] at hl hl' h23 h23'
      rw [hR] at r1 r2
      split at hl
      · omega
      · split at hl'
        · omega
        · have t1 := c.1 l d hl hg
          have t2 := c.1 l' d' hl' hg'
          rw [if_neg (by omega)] at h23 h23' r1 r2
          have w1 := b.2.2.2 d h23 j k r1
          have w2 := (b.2.2.1 k (by omega)).2
          rw [hk, if_neg (by omega)] at hkk
          exact c.2.2 l l' d d' j j' k hl hl' hg hg' h23 h23' r1 r2 hkk
  refine ⟨⟨by omega, by omega, by omega, by omega, a5⟩, ⟨b.1, hv⟩, hLI, fun a ha => ⟨by rw [hk, if_neg (by omega)]; exact (d a ha).1, by rw [hn, if_neg (by omega)]; exact (d a ha).2.1, fun q => by rw [hR, if_neg (by omega)]; exact (d a ha).2.2 q⟩, e, fun a ha q => by rw [hI, if_neg (by omega)]; exact f a ha q, fun a ha q => by rw [hJ, if_neg (by omega)]; exact i a ha q, fun l as q hl => ?_⟩
  have g := j l as q hl
  have hl1 := g.lt b.2
  obtain ⟨g1, g2, g3, dd, g4, g5, g6, g7, g8⟩ := g
  have hd1 := c.1 l dd g1 g4
  exact ⟨by rw [hk, if_neg (by omega)]; exact g1, g2, g3, dd, g4, by rw [hn, if_neg (by omega)]; exact g5, by rw [hn, if_neg (by omega)]; exact g6, fun x y hx => by rw [hR, if_neg (by omega)]; exact g7 x y hx, by rw [hk, hn, if_neg (by omega), if_neg (by omega)]; exact g8⟩
/-- a list has changed -/
theorem Fr.bL {l : Nat} (h : Fr base K L AI AJ n M M1) (g : LM M1 M2 l) (hv : PIv base M2) (hL : L l ∨ mT M ≤ l) : Fr base K L AI AJ (n + 24) M M2 := by
  obtain ⟨⟨a1, a2, a3, a4, a5⟩, b, c, d, e, f, i, j⟩ := h
  obtain ⟨b1, b2, b3, b4, b5, b6, b7, b8, b9, b10, b11, b12⟩ := g
  have t1 : mT M ≤ mT M2 := by omega
  have t2 : mT M2 ≤ mT M + (n + 24) := by omega
  have t3 : mS M ≤ mS M2 := by omega
  have t4 : mS M2 ≤ mS M + 64 * (n + 24) := by
    rw [Nat.mul_add, ← Nat.add_assoc]
    exact Nat.le_trans b4 (Nat.add_le_add a4 (by decide))
  refine ⟨⟨t1, t2, t3, t4, b5.trans a5⟩, ⟨b.1, hv⟩, b12, fun a ha => ?_, fun k a hk ha hn => ?_, fun a ha hn => (b7 a (by omega)).2.2.1.trans (f a ha hn), fun a ha hn => (b7 a (by omega)).2.2.2.trans (i a ha hn), fun l' as hn hl => ?_⟩
  · obtain ⟨x1, x2, x3⟩ := d a ha
    obtain ⟨y1, y2, y3, y4⟩ := b7 a (by omega)
    exact ⟨y1.trans x1, y2.trans x2, fun q => (b8 a (by omega) (x1.trans q)).trans (x3 q)⟩
  · obtain ⟨x1, x2, x3⟩ := e k a hk ha hn
    exact ⟨(congrFun (b9 k hk) a).trans x1, (congrFun (congrFun b6 k) a).trans x2, (congrFun (b10 k hk) a).trans x3⟩
  · have hll := hl.lt b.1
    refine b11 l' as (fun q => ?_) (j l' as hn hl)
    rcases hL with hL | hL
    · exact hn (q ▸ hL)
    · omega
end FR
