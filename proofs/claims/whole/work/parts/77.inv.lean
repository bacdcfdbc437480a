/-! THE INVARIANT between the class and the model -/
def srtOK (nE nF : Nat) (s o : Int32) : Prop := (0 ≤ s ∧ s ≤ 11) ∧ (s < 8 → o = 0) ∧ (s = 8 ∨ s = 9 → ∃ e, e < nE ∧ o = nI e) ∧ (s = 10 → ∃ l, l < 8 ∧ o = nI l) ∧ (s = 11 → ∃ f, f < nF ∧ o = nI f)
def stdOK (s : Int32) (v : Int64) : Prop := (s < 8 → shp s v = v) ∧ (s = 9 → v = 0) ∧ (s = 8 ∨ s = 10 ∨ s = 11 → v = -1)
def chkOK (k s : Int32) : Prop := (k = 0 ∧ s < 8) ∨ (k = 1 ∧ (s = 8 ∨ s = 10 ∨ s = 11)) ∨ (k = 2 ∧ 1 ≤ s ∧ s ≤ 5) ∨ (k = 3 ∧ 1 ≤ s ∧ s ≤ 4) ∨ (k = 4 ∧ s = 10) ∨ (k = 5 ∧ s = 11) ∨ (k = 6 ∧ s = 8)
def wfR (nE nF : Nat) (R : List TR) : Prop := ∀ (r : Nat) (q : TR), R[r]? = some q → (∀ (p : Nat) (t : TP), q.1[p]? = some t → srtOK nE nF t.2.1 t.2.2.1 ∧ stdOK t.2.1 t.2.2.2) ∧ ∀ (k : Nat) (c : TK), q.2.1[k]? = some c → ∃ t : TP, q.1[c.1]? = some t ∧ chkOK c.2.1 t.2.1
-- leaves
def addL (acc : List Int32) (c : Int32) : List Int32 := if c ∈ acc then acc else acc ++ [c]
def stepL2 (t : List (List Int32)) (acc : List Int32) (c : Int32) : List Int32 := if c < 10 then addL acc c else (t.getD (c - 10).toNatClampNeg []).foldl addL acc
def lvT (F : List TF) : Nat → List (List Int32)
  | 0 => []
  | n + 1 => lvT F n ++ [((F.getD n ([], [])).1).foldl (stepL2 (lvT F n)) []]
def wfF (nR : Nat) (F : List TF) : Prop := ∀ (f : Nat) (q : TF), F[f]? = some q → (∀ (k : Nat) (c : Int32), q.1[k]? = some c → (∃ r, r < nR ∧ c = nI r) ∨ ∃ g, g < f ∧ c = nI (10 + g)) ∧ q.2 = (lvT F F.length).getD f []
def wfW (W : List TW) : Prop := ∀ (r : Nat) (w : TW), W[r]? = some w → ∃ l, l < 8 ∧ w.1 = nI l
def valOK (E : List TE) (F : List TF) (W : List TW) (O : List TO) (o : Nat) (s f : Int32) (v : Int64) : Prop := (s < 8 → shp s v = v) ∧
  (s = 8 → v = -1 ∨ ∃ e q c, f = nI e ∧ E[e]? = some q ∧ c < q.1.length ∧ v = lN c) ∧ (s = 9 → ∃ e q, f = nI e ∧ E[e]? = some q ∧ v.toUInt64.toNat < 2 ^ q.1.length) ∧
  (s = 10 → v = -1 ∨ ∃ (r : Nat) (w : TW), W[r]? = some w ∧ v = lN r ∧ True) ∧ (s = 11 → v = -1 ∨ ∃ o' q' g fq, o' < o ∧ O[o']? = some q' ∧ v = lN o' ∧ f = nI g ∧ F[g]? = some fq ∧ nI q'.1 ∈ fq.2)
def wfO (E : List TE) (R : List TR) (F : List TF) (W : List TW) (O : List TO) (nT : Nat) : Prop := ∀ (o : Nat) (q : TO), O[o]? = some q → ∃ rc : TR, R[q.1]? = some rc ∧ q.2.1.length = rc.1.length ∧ (q.2.2.1 = -1 ∨ ∃ l, l < nT ∧ q.2.2.1 = nI l) ∧ ∀ (p : Nat) (t : TP) (v : Int64), rc.1[p]? = some t → q.2.1[p]? = some v → valOK E F W O o t.2.1 t.2.2.1 v
def keptOK (nW l : Nat) (t : TQ) : Prop := (0 ≤ t.2.1 ∧ t.2.1 ≤ 11) ∧ (t.2.1 < 8 → shp t.2.1 t.2.2.2.1 = t.2.2.2.1) ∧ (t.2.1 = 8 → (t.2.2.2.1 < 0 ∧ t.2.2.2.2.1 = []) ∨ (¬ t.2.2.2.1 < 0 ∧ t.2.2.2.2.1.length = 1)) ∧ (t.2.1 = 10 → (t.2.2.2.1 < 0 ∨ ∃ g, g < 8 ∧ t.2.2.1 = nI g)) ∧ (t.2.1 = 11 → t.2.2.2.1 = -1 ∨ ∃ l', l' < l ∧ t.2.2.2.1 = lN l') ∧ (t.2.1 < 8 ∨ t.2.1 = 11 → t.2.2.2.2.1 = []) ∧ (t.2.2.2.2.2 = -1 ∨ ∃ r, r < nW ∧ t.2.2.2.2.2 = nI r)
def wfT (nR nW nO : Nat) (T : List TL) : Prop := ∀ (l : Nat) (q : TL), T[l]? = some q → q.1 < nR ∧ (q.2.2.2 = -1 ∨ ∃ o, o < nO ∧ q.2.2.2 = nI o) ∧ ∀ (p : Nat) (t : TQ), q.2.2.1[p]? = some t → keptOK nW l t
-- counts
def cntE (E : List TE) : Nat := (E.filter (fun q => q.2.2.1 != 0)).length
def cntR (R : List TR) : Nat := (R.filter (fun q => q.2.2 != 0)).length
def cntL (T : List TL) : Nat := (T.filter (fun q => q.2.2.2 != -1)).length
def cntW (T : List TL) : Nat := (T.map (fun q => (q.2.2.1.filter (fun t => t.2.2.2.2.2 != -1)).length)).sum
/-- the first object like the o-th -/
def keyO (R : List TR) (O : List TO) (tw : Nat → Nat) (q : TO) : Nat × List Int64 := (q.1, ((R.getD q.1 ([], [], 0)).1.zip q.2.1).map (fun c => if c.1.2.1 = 11 ∧ c.2 ≠ -1 then lN (tw c.2.toInt32.toNatClampNeg) else c.2))
def twT (R : List TR) (O : List TO) : Nat → List Nat
  | 0 => []
  | n + 1 => twT R O n ++ [((List.range n).find? (fun k => keyO R O (fun i => (twT R O n).getD i 0) (O.getD k (0, [], 0, 0)) == keyO R O (fun i => (twT R O n).getD i 0) (O.getD n (0, [], 0, 0)))).getD n]
def wfS (E : List TE) (R : List TR) (W : List TW) (O : List TO) (T : List TL) (S : TS) (jW jO : Nat) : Prop := S.2.2.1.length = cntE E + cntR R ∧ S.1 ≤ 40 ∧ S.2.1 ≤ 100 ∧ S.2.2.2.2.2.1 ≤ 1000 ∧ O.length = S.2.1 + cntL T ∧ W.length ≤ S.1 + cntW T ∧ W.length + jW ≤ 440 ∧ O.length + jO ≤ 164 ∧ S.2.2.2.2.2.2.2 ≤ O.length ∧ ∀ (i : Nat) (q : TO), i < S.2.2.2.2.2.2.2 → O[i]? = some q → q.2.2.2 = nI ((twT R O O.length).getD i 0)
def AW (E : List TE) (R : List TR) (F : List TF) (W : List TW) (O : List TO) (T : List TL) (S : TS) (jW jO : Nat) : Prop := wfR E.length F.length R ∧ wfF R.length F ∧ wfW W ∧ wfO E R F W O T.length ∧ wfT R.length W.length O.length T ∧ wfS E R W O T S jW jO
def XI (x : Nat) (E : List TE) (R : List TR) (F : List TF) (W : List TW) (O : List TO) (T : List TL) (S : TS) (jW jO : Nat) (M : Mem) : Prop := (XB x M ∧ PIv x M ∧ LI M) ∧ XE x M E ∧ XR x M R ∧ XF x M F ∧ XW x M W jW ∧ XO x M O jO ∧ XL x M T ∧ XS x M S
def MI (m : Nat) (E : List TE) (R : List TR) (F : List TF) (W : List TW) (O : List TO) (T : List TL) (S : TS) (M : Mem) : Prop := MB m M ∧ ME m M E ∧ MR m M R ∧ MF m M F ∧ MW m M W ∧ MO m M O ∧ ML m M T ∧ MS m M S
/-- the script -/
def SC (x b L : Nat) (xs : Nat → Int32) (M : Mem) : Prop := b < x ∧ kd M b = 30 ∧ ln M b = L ∧ aI M b = xs
def Inv (x : Nat) (E : List TE) (R : List TR) (F : List TF) (W : List TW) (O : List TO) (T : List TL) (S : TS) (jW jO : Nat) (M : Mem) : Prop := XI x E R F W O T S jW jO M ∧ MI (x + 12) E R F W O T S M ∧ AW E R F W O T S jW jO
/-- what may grow: old rows and objects count too -/
abbrev pot (W : List TW) (O : List TO) (T : List TL) (jW jO : Nat) : Nat := W.length + jW + O.length + jO + T.length
/-- one call, on the class, then on the model: the same answer, and all goes on -/
abbrev isI (v : PV) : Prop := ∃ i : Int32, v = pI i
abbrev isJ (v : PV) : Prop := ∃ i : Int64, v = pJ i
def OpG (K : PV → Prop) (x : Nat) (W : List TW) (O : List TO) (T : List TL) (jW jO : Nat) (M : Mem) (cl md : Mem → Option Rt) : Prop :=
  ∃ (v : PV) (M1 M2 : Mem) (E' : List TE) (R' : List TR) (F' : List TF) (W' : List TW) (O' : List TO) (T' : List TL) (S' : TS) (jW' jO' n : Nat), cl M = some (some v, M1) ∧ md M1 = some (some v, M2) ∧ Inv x E' R' F' W' O' T' S' jW' jO' M2 ∧
    (n + 64 * pot W O T jW jO ≤ 64 * (pot W' O' T' jW' jO' + 1) ∧ mT M2 ≤ mT M + n ∧ mS M2 ≤ mS M + 64 * n) ∧ (∀ b L xs, SC x b L xs M → SC x b L xs M1 ∧ SC x b L xs M2) ∧ kd M1 (x + 12) = 12 ∧ K v
abbrev Op (x : Nat) (W : List TW) (O : List TO) (T : List TL) (jW jO : Nat) (M : Mem) (cl md : Mem → Option Rt) : Prop := OpG isI x W O T jW jO M cl md
abbrev OpJ (x : Nat) (W : List TW) (O : List TO) (T : List TL) (jW jO : Nat) (M : Mem) (cl md : Mem → Option Rt) : Prop := OpG isJ x W O T jW jO M cl md
/-- nothing changes -/
theorem Op.keep {K : PV → Prop} {x : Nat} {E : List TE} {R : List TR} {F : List TF} {W : List TW} {O : List TO} {T : List TL} {S : TS} {jW jO : Nat} {M : Mem} {cl md : Mem → Option Rt} (h : Inv x E R F W O T S jW jO M) {v : PV} (h1 : cl M = some (some v, M)) (h2 : md M = some (some v, M)) (hk : K v := by exact ⟨_, rfl⟩) : OpG K x W O T jW jO M cl md :=
  ⟨v, M, M, E, R, F, W, O, T, S, jW, jO, 0, h1, h2, h, ⟨by omega, by omega, by omega⟩, (fun _ _ _ h => ⟨h, h⟩), h.2.1.1.k, hk⟩
/-- the class's own keys, lists, rows -/
abbrev KX : Nat → Prop := fun k => 3 ≤ k ∧ k < 768 ∧ k ∉ [704, 705, 706, 707, 710, 714, 716, 717, 718, 719, 720]
abbrev AX (x : Nat) : Nat → Prop := fun a => x ≤ a ∧ (a < x + 12 ∨ x + 57 < a)
theorem SC.fr {x b L n : Nat} {xs : Nat → Int32} {K L' AI AJ : Nat → Prop} {M M' : Mem} (h : SC x b L xs M) (hx : x < mT M) (f : Fr x K L' AI AJ n M M') (hA : ∀ a, a < x → ¬ AI a) : SC x b L xs M' := by
  obtain ⟨h1, h2, h3, h4⟩ := h
  exact ⟨h1, by rw [f.fk (by omega)]; exact h2, by rw [f.fl (by omega)]; exact h3, by rw [f.eI (by omega) (hA b h1)]; exact h4⟩
theorem MI.mu {m : Nat} {E : List TE} {R : List TR} {F : List TF} {W : List TW} {O : List TO} {T : List TL} {S : TS} {M M' : Mem} (h : MI m E R F W O T S M) (u : MU m M M') : MI m E R F W O T S M' := by
  obtain ⟨h1, h2, h3, h4, h5, h6, h7, h8⟩ := h
  exact ⟨h1.mu u, h2.mu u, h3.mu u, h4.mu u, h5.mu u, h6.mu u, h7.mu u, h8.mu u⟩
/-- the model's writes leave the class's state as it is -/
theorem XI.cu {x : Nat} {E : List TE} {R : List TR} {F : List TF} {W : List TW} {O : List TO} {T : List TL} {S : TS} {jW jO : Nat} {M M' : Mem} (h : XI x E R F W O T S jW jO M) (u : CU (x + 12) M M') : XI x E R F W O T S jW jO M' := by
  obtain ⟨⟨hB, hv, hL⟩, h1, h2, h3, h4, h5, h6, h7⟩ := h
  have f := u.fr hv hL
  exact ⟨⟨hB.fr f (by decide) (fun a ha q => by omega), f.v, f.li⟩, h1.fr f (by decide) id (fun _ _ _ => id), h2.fr f (by decide) id (fun _ _ _ _ => ⟨id, id⟩), h3.fr f (by decide) id (fun a ha _ => ⟨fun q => by omega, fun q => by omega⟩), h4.fr hB f (by decide) id (fun a ha _ q => by omega), h5.fr hB f (by decide) id (fun a ha _ q => by omega), h6.fr f (by decide) id ⟨fun a ha _ q => by omega, fun d hd q => by omega⟩, h7.fr hB f (by decide) ⟨fun q => by omega, fun q => by omega⟩ (fun q => by omega)⟩
/-- out of bounds, or a number -/
def oob (e : Int32) (n : Nat) : Prop := e < 0 ∨ nI n ≤ e
theorem oob_or (e : Int32) (n : Nat) (hn : n < 2147483648) : oob e n ∨ ∃ k, k < n ∧ e = nI k := by
  by_cases h : e < 0
  · exact Or.inl (Or.inl h)
  · by_cases h1 : e < nI n
    · exact Or.inr (nI_in' hn h h1)
    · exact Or.inl (Or.inr (by rw [I32_lt] at h1; rw [I32_le]; omega))
