/-! KEEPING: what is kept of a part, the class -/
section OPS
variable {x : Nat} {E E' : List TE} {R R' : List TR} {F F' : List TF} {W W' : List TW} {O O' : List TO} {T T' : List TL} {S S' : TS} {jW jO jW' jO' n : Nat} {M M' M1 : Mem}
/-- a bit of a set -/
def bt (v : Int64) (i : Nat) : Bool := decide (¬ ((v >>> ((nI i).toInt64 &&& 63)) &&& (1 : Int64)) = 0)
def nms : List TC → Int64 → Nat → List Int64
  | [], _, _ => []
  | c :: cs, v, i => if bt v i = true then c.1 :: nms cs v (i + 1) else nms cs v (i + 1)
def cb (v : Int64) : Nat → Nat → Nat
  | 0, _ => 0
  | n + 1, i => (if bt v i = true then 1 else 0) + cb v n (i + 1)
theorem nms_len (v : Int64) : ∀ (cs : List TC) (i : Nat), (nms cs v i).length = cb v cs.length i := by
  intro cs
  induction cs with
  | nil => intro i; rfl
  | cons c cs ih =>
    intro i
    unfold nms
    rw [List.length_cons]
    unfold cb
    by_cases h : bt v i = true
    · rw [if_pos h, if_pos h, List.length_cons, ih]; omega
    · rw [if_neg h, if_neg h, ih]; omega
def bcJ (v : Int64) : Int32 :=
  let a := v - ((v.toUInt64 >>> ((1 : Int32).toInt64.toUInt64 &&& Int64.toUInt64 63)).toInt64 &&& (6148914691236517205 : Int64))
  let b := (a &&& (3689348814741910323 : Int64)) + ((a.toUInt64 >>> ((2 : Int32).toInt64.toUInt64 &&& Int64.toUInt64 63)).toInt64 &&& (3689348814741910323 : Int64))
  let c := (b + (b.toUInt64 >>> ((4 : Int32).toInt64.toUInt64 &&& Int64.toUInt64 63)).toInt64) &&& (1085102592571150095 : Int64)
  let d := c + (c.toUInt64 >>> ((8 : Int32).toInt64.toUInt64 &&& Int64.toUInt64 63)).toInt64
  let e := d + (d.toUInt64 >>> ((16 : Int32).toInt64.toUInt64 &&& Int64.toUInt64 63)).toInt64
  let f := e + (e.toUInt64 >>> ((32 : Int32).toInt64.toUInt64 &&& Int64.toUInt64 63)).toInt64
  f.toInt32 &&& 127
theorem c_bc (v : Int64) (M : Mem) : ex 6 2 [pJ v] M = some (some (pI (bcJ v)), M) := by
  rw [tJ13_bitCount_95d88, tJ13_bitCount_95d88_10, tJ13_bitCount_95d88_24, tJ13_bitCount_95d88_34, tJ13_bitCount_95d88_41, tJ13_bitCount_95d88_48, tJ13_bitCount_95d88_55, tJ13_bitCount_95d88_57]
  rfl
theorem bc_tab : ∀ n, n < 9 → ∀ k, k < 256 → k < 2 ^ n → bcJ (lN k) = nI (cb (lN k) n 0) := by decide +kernel
theorem lN_of {v : Int64} {k : Nat} (h : v.toUInt64.toNat = k) : v = lN k := by
  apply N64_inj
  show v.toUInt64.toNat = (lN k).toUInt64.toNat
  rw [h]
  have : k < 18446744073709551616 := by rw [← h]; exact v.toUInt64.toNat_lt
  show k = (BitVec.ofNat 64 k).toNat
  rw [BitVec.toNat_ofNat]
  exact (Nat.mod_eq_of_lt this).symm
theorem c_bits {v : Int64} {cs : List TC} (h8 : cs.length ≤ 8) (hv : v.toUInt64.toNat < 2 ^ cs.length) (M : Mem) : ex 6 2 [pJ v] M = some (some (pI (nI (nms cs v 0).length)), M) := by
  have h256 : 2 ^ cs.length ≤ 2 ^ 8 := Nat.pow_le_pow_right (by omega) h8
  have h2 : (2 : Nat) ^ 8 = 256 := by decide
  rw [c_bc, nms_len, lN_of rfl (v := v), bc_tab cs.length (by omega) v.toUInt64.toNat (by omega) hv]
theorem c_names21 {ae d tot : Nat} {qe : TE} {v : Int64} (hd : d ≠ ae) (ht : tot < 2147483648) : ∀ (k i c : Nat) (M : Mem), k + i = qe.1.length → PIv x M → LI M → cE x M qe ae → kd M d = 21 → ln M d = tot → c + (nms (qe.1.drop i) v i).length = tot → ∃ g, rn PP 145 21 [none, none, some (pJ v), none, some (pR (some ae)), some (pR (some d)), some (pI (nI c)), some (pI (nI i))] [] M = some (some (pR (some d)), uJ M d g) ∧ (∀ j, j < c → g j = aJ M d j) ∧ (∀ (j : Nat) (w : Int64), (nms (qe.1.drop i) v i)[j]? = some w → g (c + j) = w) := by
  intro k
  induction k with
  | zero =>
    intro i c M hi hv hL he hk hl hc
    have h1002 := he.2.2.2.2.2.len
    rw [List.drop_of_length_le (show qe.1.length ≤ i by omega)]
    refine ⟨aJ M d, ?_, fun j _ => rfl, fun j w hw => nomatch hw⟩
    rw [tX11_namesOf_21, uJ_self]
    exact it_f (fun z => nomatch z) (rd_i rfl he.1 (rd_i he.2.1 he.2.2.2.2.2.k (clI_i he.2.2.2.2.2.size (it_t (nI_le (by omega) (by omega)) rfl))))
  | succ k ih =>
    intro i c M hi hv hL he hk hl hc
    have h1002 := he.2.2.2.2.2.len
    obtain ⟨q, hq, hdq⟩ := drop_get (l := qe.1) (i := i) (by omega)
    obtain ⟨ka, k1, k2, k3, -⟩ := isO.at he.2.2.2.2.2 hq
    rw [hdq] at hc ⊢
    have en : nms (q :: qe.1.drop (i + 1)) v i = if bt v i = true then q.1 :: nms (qe.1.drop (i + 1)) v (i + 1) else nms (qe.1.drop (i + 1)) v (i + 1) := by rw [nms]
    rw [en] at hc ⊢
    by_cases hb : ((v >>> ((nI i).toInt64 &&& 63)) &&& (1 : Int64)) = 0
    · have nb : ¬ bt v i = true := fun z => of_decide_eq_true z hb
      rw [if_neg nb] at hc ⊢
      obtain ⟨g, e1, e2, e3⟩ := ih (i + 1) c M (by omega) hv hL he hk hl hc
      refine ⟨g, ?_, e2, e3⟩
      rw [tX11_namesOf_21]
      refine it_f (fun z => nomatch z) (rd_i rfl he.1 (rd_i he.2.1 he.2.2.2.2.2.k (clI_i he.2.2.2.2.2.size (it_f (nI_ge (by omega) (by omega)) (it_t (cmp_eq0.mpr hb) ?_)))))
      rw [nI_1]
      exact e1
    · have yb : bt v i = true := decide_eq_true hb
      rw [if_pos yb] at hc ⊢
      rw [List.length_cons] at hc
      have f : Fr x No No No (fun a => a = d) 0 M (wJ M d c q.1) := (Fr.rf hv hL).bAJ (Or.inl rfl)
      have ew : aJ (wJ M d c q.1) d = up1 (aJ M d) c q.1 := by rw [aJ_wJ, up1_at]
      obtain ⟨g, e1, e2, e3⟩ := ih (i + 1) (c + 1) (wJ M d c q.1) (by omega) f.v f.li (he.fr f (fun _ _ => id) id) (by rw [kd_wJ]; exact hk) (by rw [ln_wJ]; exact hl) (by omega)
      refine ⟨g, ?_, fun j hj => ?_, fun j w hw => ?_⟩
      · rw [tX11_namesOf_21]
        refine it_f (fun z => nomatch z) (rd_i rfl he.1 (rd_i he.2.1 he.2.2.2.2.2.k (clI_i he.2.2.2.2.2.size (it_f (nI_ge (by omega) (by omega)) (it_f (fun z => hb (cmp_eq0.mp z)) (al_i rfl (by omega) (it_f (by rw [hl]; exact nI_ge (by omega) (by omega)) (rd_i rfl he.1 (rd_i he.2.1 he.2.2.2.2.2.k (clR_i k1 (ck_s rfl k3.1 (rd_i rfl k3.1 (ix_i (n := c) rfl (Or.inl hk) rfl (by omega) (by omega) (bd_i ?_))))))))))))))
        rw [k3.2.1, nI_1, nI_1, e1]
        show some (some (pR (some d)), uJ (uJ M d (up1 (aJ M d) c q.1)) d g) = _
        rw [uJ_uJ]
      · rw [e2 j (by omega), ew, up1_no (by omega)]
      · cases j with
        | zero =>
          have hw : q.1 = w := Option.some.inj hw
          rw [Nat.add_zero, e2 c (by omega), ew, up1_at]
          exact hw
        | succ j =>
          have hw : (nms (qe.1.drop (i + 1)) v (i + 1))[j]? = some w := hw
          have := e3 j w hw
          rw [show c + (j + 1) = c + 1 + j by omega]
          exact this
/-- names in a new row of longs -/
theorem c_namesOf {e : Nat} {qe : TE} {v : Int64} (hX : XI x E R F W O T S jW jO M) (hq : E[e]? = some qe) (h8 : qe.1.length ≤ 8) (hv' : v.toUInt64.toNat < 2 ^ qe.1.length) : ∃ M', ex 145 8 [pR (some x), pI (nI e), pJ v] M = some (some (pR (some (mT M))), M') ∧ Fr x No No No No 1 M M' ∧ kd M' (mT M) = 21 ∧ ln M' (mT M) = (nms qe.1 v 0).length ∧ (∀ (i : Nat) (w : Int64), (nms qe.1 v 0)[i]? = some w → aJ M' (mT M) i = w) := by
  obtain ⟨⟨hB, hv, hL⟩, hE, -, -, -, -, -, -⟩ := id hX
  obtain ⟨ae, c107, hxa, hc, -⟩ := c_enumAt hB hE hq
  have hlen : (nms qe.1 v 0).length ≤ 8 := by
    have : ∀ (cs : List TC) (i : Nat), (nms cs v i).length ≤ cs.length := by
      intro cs
      induction cs with
      | nil => intro i; exact Nat.le_refl _
      | cons c cs ih =>
        intro i
        rw [nms]
        have := ih (i + 1)
        split
        · rw [List.length_cons, List.length_cons]; omega
        · rw [List.length_cons]; omega
    exact Nat.le_trans (this qe.1 0) h8
  have hae := lt_of_kd hv hc.1 (by omega)
  have fA : Fr x No No No No 1 M (nA M 21 (nms qe.1 v 0).length) := (Fr.rf hv hL).bA (by omega) (by omega) (by omega)
  have kA : kd (nA M 21 (nms qe.1 v 0).length) (mT M) = 21 := by rw [kd_nA, up1_at]
  have lA : ln (nA M 21 (nms qe.1 v 0).length) (mT M) = (nms qe.1 v 0).length := by rw [ln_nA, up1_at]
  have cA := hc.fr fA (fun _ _ => id) id
  have run : ∀ {rr : Option Rt}, rn PP 145 21 [none, none, some (pJ v), none, some (pR (some ae)), some (pR (some (mT M))), some (pI 0), some (pI 0)] [] (nA M 21 (nms qe.1 v 0).length) = rr → ex 145 8 [pR (some x), pI (nI e), pJ v] M = rr := fun {rr} hr => by
    rw [tX11_namesOf]
    refine rd_i rfl hB.k (clR_i c107 (clI_i (c_bits h8 hv' M) (gd_i ⟨nI_pos (by omega), by rw [nI_clamp (by omega)]; omega⟩ (bd_i ?_))))
    rw [nI_clamp (by omega)]
    exact hr
  generalize nA M 21 (nms qe.1 v 0).length = Ma at fA kA lA cA run
  obtain ⟨g, e1, -, e3⟩ := c_names21 (x := x) (d := mT M) (tot := (nms qe.1 v 0).length) (v := v) (by omega) (by omega) qe.1.length 0 0 Ma (by omega) fA.v fA.li cA kA lA (by rw [List.drop_zero]; omega)
  rw [List.drop_zero] at e3
  refine ⟨_, run e1, fA.bAJ (Or.inr (Nat.le_refl _)), by rw [kd_uJ]; exact kA, by rw [ln_uJ]; exact lA, fun i w hw => ?_⟩
  rw [aJ_uJ, up1_at]
  have := e3 i w hw
  rw [Nat.zero_add] at this
  exact this
/-- one constant as a set -/
def oneB (c : Nat) : Int64 := (1 : Int64) <<< ((lN c).toInt32.toInt64 &&& 63)
theorem oneB_bt : ∀ c, c < 8 → ∀ i, i < 8 → bt (oneB c) i = decide (i = c) := by decide +kernel
theorem oneB_lt : ∀ c, c < 8 → (oneB c).toUInt64.toNat = 2 ^ c := by decide +kernel
theorem nms_one {c : Nat} (hc : c < 8) : ∀ (cs : List TC) (i : Nat), i + cs.length ≤ 8 → (c < i → nms cs (oneB c) i = []) ∧ (∀ t : TC, i ≤ c → cs[c - i]? = some t → nms cs (oneB c) i = [t.1]) := by
  intro cs
  induction cs with
  | nil => intro i _; exact ⟨fun _ => rfl, fun t _ h => nomatch h⟩
  | cons d cs ih =>
    intro i hi
    rw [List.length_cons] at hi
    obtain ⟨y1, y2⟩ := ih (i + 1) (by omega)
    have eb := oneB_bt c hc i (by omega)
    refine ⟨fun h => ?_, fun t h1 h2 => ?_⟩
    · rw [nms, if_neg (by rw [eb]; simp; omega)]
      exact y1 (by omega)
    · by_cases q : i = c
      · subst q
        rw [nms, if_pos (by rw [eb]; simp), y1 (by omega)]
        rw [Nat.sub_self] at h2
        have h2 : d = t := Option.some.inj h2
        rw [h2]
      · rw [nms, if_neg (by rw [eb]; simp; omega)]
        refine y2 t (by omega) ?_
        rw [show c - i = (c - (i + 1)) + 1 by omega] at h2
        exact h2
theorem kq_init {Ma : Mem} {a k d : Nat} {t : TP} {b : Int64} {K L AI AJ : Nat → Prop} (f : Fr x K L AI AJ n M Ma) (haM : mT M ≤ a) (hk : kd Ma a = 5) (hp : cP Ma t k) : ∃ Mc, ex 54 5 [pR (some a), pR (some k), pJ b, pR (some d)] Ma = some (none, Mc) ∧ Fr x K L AI AJ n M Mc ∧ (kd Mc = kd Ma ∧ ln Mc = ln Ma ∧ aJ Mc = aJ Ma ∧ sR Mc = sR Ma ∧ mT Mc = mT Ma) ∧ gJ Mc 320 a = t.1 ∧ gI Mc 321 a = t.2.1 ∧ (8 ≤ t.2.1 → gI Mc 322 a = t.2.2.1) ∧ gJ Mc 323 a = b ∧ gR Mc 324 a = some d ∧ gI Mc 325 a = -1 := by
  have g0 : Fr x (fun k => 320 ≤ k ∧ k ≤ 325) No No No 0 Ma Ma := Fr.rf f.v f.li
  have g1 : Fr x (fun k => 320 ≤ k ∧ k ≤ 325) No No No 0 Ma (sI Ma 325 a (-1)) := g0.bI (Or.inl ⟨by omega, by omega⟩)
  have q1 := hp.fr g1 (by decide)
  have g2 : Fr x (fun k => 320 ≤ k ∧ k ≤ 325) No No No 0 Ma (sJ (sI Ma 325 a (-1)) 320 a t.1) := g1.bJ (Or.inl ⟨by omega, by omega⟩)
  have q2 := hp.fr g2 (by decide)
  have g3 : Fr x (fun k => 320 ≤ k ∧ k ≤ 325) No No No 0 Ma (sI (sJ (sI Ma 325 a (-1)) 320 a t.1) 321 a t.2.1) := g2.bI (Or.inl ⟨by omega, by omega⟩)
  have q3 := hp.fr g3 (by decide)
  have f6 : ∀ w : Int32, Fr x K L AI AJ n M (sF (sJ (sI (sI (sJ (sI Ma 325 a (-1)) 320 a t.1) 321 a t.2.1) 322 a w) 323 a b) 324 a (some d)) := fun w => ((((((f.bI (Or.inr haM)).bJ (Or.inr haM)).bI (Or.inr haM)).bI (Or.inr haM)).bJ (Or.inr haM)).bF (Or.inr ⟨haM, Or.inl (by omega)⟩))
  refine ⟨_, ?_, f6 (gI (sI (sJ (sI Ma 325 a (-1)) 320 a t.1) 321 a t.2.1) 514 k), ⟨?_, ?_, ?_, ?_, ?_⟩, ?_, ?_, fun z => ?_, ?_, ?_, ?_⟩
  · rw [tX5_init]
    refine nn_i rfl (rd_i rfl hk (bd_i (rd_i rfl q1.1 (rd_i rfl (by rw [kd_sI]; exact hk) ?_))))
    rw [q1.2.1]
    refine bd_i (rd_i rfl q2.1 (rd_i rfl (by rw [kd_sJ, kd_sI]; exact hk) ?_))
    rw [q2.2.2.1]
    exact bd_i (rd_i rfl q3.1 (rd_i rfl (by rw [kd_sI, kd_sJ, kd_sI]; exact hk) (bd_i (rd_i rfl (by rw [kd_sI, kd_sI, kd_sJ, kd_sI]; exact hk) (bd_i (rd_i rfl (by rw [kd_sJ, kd_sI, kd_sI, kd_sJ, kd_sI]; exact hk) (bd_i rfl)))))))
  · rw [kd_sF, kd_sJ, kd_sI, kd_sI, kd_sJ, kd_sI]
  · rw [ln_sF, ln_sJ, ln_sI, ln_sI, ln_sJ, ln_sI]
  · rw [aJ_sF, aJ_sJ, aJ_sI, aJ_sI, aJ_sJ, aJ_sI]
  · rw [sR_sF, sR_sJ, sR_sI, sR_sI, sR_sJ, sR_sI]
  · rw [mT_sF, mT_sJ, mT_sI, mT_sI, mT_sJ, mT_sI]
  · rw [gJ_sF, gJ_sJ, up2_ne (by omega), gJ_sI, gJ_sI, gJ_sJ, up2_at]
  · rw [gI_sF, gI_sJ, gI_sI, up2_ne (by omega), gI_sI, up2_at]
  · rw [gI_sF, gI_sJ, gI_sI, up2_at]
    exact q3.2.2.2.1 z
  · rw [gJ_sF, gJ_sJ, up2_at]
  · rw [gR_sF, up2_at]
  · rw [gI_sF, gI_sJ, gI_sI, up2_ne (by omega), gI_sI, up2_ne (by omega), gI_sJ, gI_sI, up2_at]
/-- what is kept of a value -/
def kqv (O : List TO) (t : TP) (v : Int64) : Int64 := if t.2.1 = 11 then (if v = -1 then -1 else ((O.getD v.toInt32.toNatClampNeg (0, [], 0, 0)).2.2.1).toInt64) else v
def kqw (E : List TE) (W : List TW) (t : TP) (v : Int64) : List Int64 := if t.2.1 = 8 then (if v = -1 then [] else [((E.getD t.2.2.1.toNatClampNeg ([], 0, 0, 0)).1.getD v.toInt32.toNatClampNeg (0, 0)).1]) else if t.2.1 = 9 then nms (E.getD t.2.2.1.toNatClampNeg ([], 0, 0, 0)).1 v 0 else if t.2.1 = 10 then (if v = -1 then [] else (W.getD v.toInt32.toNatClampNeg (0, [])).2) else []
def kq0 (E : List TE) (W : List TW) (O : List TO) (t : TP) (v : Int64) : TQ := (t.1, t.2.1, t.2.2.1, kqv O t v, kqw E W t v, -1)
theorem XI.fr0 (h : XI x E R F W O T S jW jO M) (f : Fr x No No No No n M M1) : XI x E R F W O T S jW jO M1 := by
  obtain ⟨⟨hB, hv, hLI⟩, h1, h2, h3, h4, h5, h6, h7⟩ := h
  exact ⟨⟨hB.fr f (fun _ _ => id) (fun _ _ => id), f.v, f.li⟩, h1.fr f (fun _ _ => id) id (fun _ _ _ => id), h2.fr f (fun _ _ => id) id (fun _ _ _ _ => ⟨id, id⟩), h3.fr f (fun _ _ => id) id (fun _ _ _ => ⟨id, id⟩), h4.fr hB f (fun _ _ => id) id (fun _ _ _ => id), h5.fr hB f (fun _ _ => id) id (fun _ _ _ => id), h6.fr f (fun _ _ => id) id ⟨fun _ _ _ => id, fun _ _ => id⟩, h7.fr hB f (fun _ _ => id) ⟨id, id⟩ id⟩
end OPS
