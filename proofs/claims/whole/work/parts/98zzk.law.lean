/-! THE LAW: its loop (printed by wip/whole/gen/gen_law.py) -/
section OPS
variable {x : Nat} {E E' : List TE} {R R' : List TR} {F F' : List TF} {W W' : List TW} {O O' : List TO} {T T' : List TL} {S S' : TS} {jW jO jW' jO' n : Nat} {M M' M1 : Mem}
theorem ix_s {α : Type} {f : Nat → Nat → Option α} {r : Option α} {b L j : Nat} {xs : Nat → Int32} {i : Int32} (hs : SC x b L xs M) (hi : i = nI j) (hj : j < L) (hL : L ≤ 4096) (k : f b j = r) : ix 20 30 (some b) i M f = r := ix_i rfl (Or.inr hs.2.1) hi (by rw [hs.2.2.1]; exact hj) (by omega) k
theorem nI_plus (a c : Nat) : nI a + nI c = nI (a + c) := by
  induction c with
  | zero => exact Int32.add_zero _
  | succ c ih => rw [← nI_1, ← Int32.add_assoc, ih, nI_1]; rfl
theorem nI_sub8 {L j : Nat} (hL : L ≤ 4096) (hj : j ≤ 8192) : nI L - 8 < nI j ↔ L < j + 8 := by
  rw [I32_lt, Int32.toInt_sub, nI_toInt (by omega), nI_toInt (by omega)]
  have : (8 : Int32).toInt = 8 := rfl
  rw [this, Int.bmod_eq_of_le (by omega) (by omega)]
  omega
/-- from here on the law goes to its end, and answers 1 -/
def LwG (x b k n : Nat) (W : List TW) (O : List TO) (T : List TL) (jW jO : Nat) (M : Mem) : Prop := ∃ Me nn, rn PP 231 18 [some (pR (some b)), some (pR (some x)), some (pR (some (x + 12))), some (pI (nI (8 * k)))] [] M = some (some (pI 1), Me) ∧ mT Me ≤ mT M + nn ∧ mS Me ≤ mS M + 64 * nn ∧ nn + 64 * pot W O T jW jO ≤ 64 * (668 + n)
theorem LwG.op {K : PV → Prop} {b L k : Nat} {xs : Nat → Int32} {cl md : Mem → Option Rt} (h : OpG K x W O T jW jO M cl md) (ih : ∀ (E : List TE) (R : List TR) (F : List TF) (W : List TW) (O : List TO) (T : List TL) (S : TS) (jW jO : Nat) (M : Mem), Inv x E R F W O T S jW jO M → SC x b L xs M → LwG x b (k + 1) n W O T jW jO M) (hs : SC x b L xs M) (hr : ∀ (v : PV) (M1 M2 : Mem), cl M = some (some v, M1) → md M1 = some (some v, M2) → K v → SC x b L xs M1 → kd M1 (x + 12) = 12 → ∀ {rr : Option Rt}, rn PP 231 18 [some (pR (some b)), some (pR (some x)), some (pR (some (x + 12))), some (pI (nI (8 * k) + 8))] [] M2 = rr → rn PP 231 18 [some (pR (some b)), some (pR (some x)), some (pR (some (x + 12))), some (pI (nI (8 * k)))] [] M = rr) : LwG x b k (n + 1) W O T jW jO M := by
  obtain ⟨v, M1, M2, E', R', F', W', O', T', S', jW', jO', n1, h1, h2, hI, ⟨c1, c2, c3⟩, hsc, hk1, hK⟩ := h
  obtain ⟨s1, s2⟩ := hsc b L xs hs
  obtain ⟨Me, nn, g1, g2, g3, g4⟩ := ih E' R' F' W' O' T' S' jW' jO' M2 hI s2
  refine ⟨Me, n1 + nn, hr v M1 M2 h1 h2 hK s1 hk1 ?_, by omega, by omega, by omega⟩
  rw [show nI (8 * k) + 8 = nI (8 * (k + 1)) from nI_plus (8 * k) 8]
  exact g1
set_option maxHeartbeats 4000000 in
theorem law_step {b L k : Nat} {xs : Nat → Int32} (h : Inv x E R F W O T S jW jO M) (hs : SC x b L xs M) (hL : L ≤ 4096) (hk : 8 * k + 8 ≤ L) (ih : ∀ (E : List TE) (R : List TR) (F : List TF) (W : List TW) (O : List TO) (T : List TL) (S : TS) (jW jO : Nat) (M : Mem), Inv x E R F W O T S jW jO M → SC x b L xs M → LwG x b (k + 1) n W O T jW jO M) : LwG x b k (n + 1) W O T jW jO M := by
  have hB := h.1.1.1
  have hal : 20 ≤ kd M b ∧ kd M b < 40 := by rw [hs.2.1]; omega
  have hc : ¬ (nI (ln M b) - 8) < nI (8 * k) := by
    rw [hs.2.2.1, nI_sub8 hL (by omega)]
    omega
  have a1 : nI (8 * k) + 1 = nI (8 * k + 1) := nI_plus (8 * k) 1
  have a2 : nI (8 * k) + 2 = nI (8 * k + 2) := nI_plus (8 * k) 2
  have a3 : nI (8 * k) + 3 = nI (8 * k + 3) := nI_plus (8 * k) 3
  have a4 : nI (8 * k) + 4 = nI (8 * k + 4) := nI_plus (8 * k) 4
  have a5 : nI (8 * k) + 5 = nI (8 * k + 5) := nI_plus (8 * k) 5
  have a6 : nI (8 * k) + 6 = nI (8 * k + 6) := nI_plus (8 * k) 6
  have a7 : nI (8 * k) + 7 = nI (8 * k + 7) := nI_plus (8 * k) 7
  have l0 : 8 * k < L := by omega
  have l1 : 8 * k + 1 < L := by omega
  have l2 : 8 * k + 2 < L := by omega
  have l3 : 8 * k + 3 < L := by omega
  have l4 : 8 * k + 4 < L := by omega
  have l5 : 8 * k + 5 < L := by omega
  have l6 : 8 * k + 6 < L := by omega
  have l7 : 8 * k + 7 < L := by omega
  have e := (tL_law_18 (some b) (some x) (some (x + 12)) (nI (8 * k)) M).trans (al_i rfl hal (it_f hc (ix_s hs rfl l0 hL rfl)))
  by_cases o0 : (aI M b (8 * k) &&& 63) = Int32.ofInt (0)
  · exact LwG.op (op_enumeration h) ih hs (fun v M1 M2 h1 h2 hK hs1 hk1 {rr} hr => by
      obtain ⟨r, rfl⟩ := hK
      have eA : aI M1 b = aI M b := hs1.2.2.2.trans hs.2.2.2.symm
      refine e.trans (it_t o0 (rd_i rfl hB.k (clI_i h1 (rd_i rfl hk1 ?_))))
      exact clI_i h2 (it_t rfl hr))
  have e := e.trans (it_f o0 rfl)
  by_cases o1 : (aI M b (8 * k) &&& 63) = Int32.ofInt (1)
  · by_cases z : aI M b (8 * k + 4) = 0
    · exact LwG.op (op_constant h (aI M b (8 * k + 1)) ((((aI M b (8 * k + 2)).toInt64) <<< ((32 : Int32).toInt64 &&& 63)) ||| ((aI M b (8 * k + 3)).toInt64 &&& (4294967295 : Int64))) 0 (Or.inl rfl)) ih hs (fun v M1 M2 h1 h2 hK hs1 hk1 {rr} hr => by
        obtain ⟨r, rfl⟩ := hK
        have eA : aI M1 b = aI M b := hs1.2.2.2.trans hs.2.2.2.symm
        refine e.trans (it_t o1 (ix_s hs a1 l1 hL (ix_s hs a2 l2 hL (ix_s hs a3 l3 hL (ix_s hs a4 l4 hL (it_t z (rd_i rfl hB.k (clI_i h1 (ix_s hs1 a1 l1 hL (ix_s hs1 a2 l2 hL (ix_s hs1 a3 l3 hL (ix_s hs1 a4 l4 hL (it_t (by rw [eA]; exact z) (rd_i rfl hk1 ?_))))))))))))))
        rw [eA]
        exact clI_i h2 (it_t rfl hr))
    · exact LwG.op (op_constant h (aI M b (8 * k + 1)) ((((aI M b (8 * k + 2)).toInt64) <<< ((32 : Int32).toInt64 &&& 63)) ||| ((aI M b (8 * k + 3)).toInt64 &&& (4294967295 : Int64))) 1 (Or.inr rfl)) ih hs (fun v M1 M2 h1 h2 hK hs1 hk1 {rr} hr => by
        obtain ⟨r, rfl⟩ := hK
        have eA : aI M1 b = aI M b := hs1.2.2.2.trans hs.2.2.2.symm
        refine e.trans (it_t o1 (ix_s hs a1 l1 hL (ix_s hs a2 l2 hL (ix_s hs a3 l3 hL (ix_s hs a4 l4 hL (it_f z (rd_i rfl hB.k (clI_i h1 (ix_s hs1 a1 l1 hL (ix_s hs1 a2 l2 hL (ix_s hs1 a3 l3 hL (ix_s hs1 a4 l4 hL (it_f (by rw [eA]; exact z) (rd_i rfl hk1 ?_))))))))))))))
        rw [eA]
        exact clI_i h2 (it_t rfl hr))
  have e := e.trans (it_f o1 rfl)
  by_cases o2 : (aI M b (8 * k) &&& 63) = Int32.ofInt (2)
  · exact LwG.op (op_exchange h (aI M b (8 * k + 1)) (aI M b (8 * k + 2)) (aI M b (8 * k + 3))) ih hs (fun v M1 M2 h1 h2 hK hs1 hk1 {rr} hr => by
      obtain ⟨r, rfl⟩ := hK
      have eA : aI M1 b = aI M b := hs1.2.2.2.trans hs.2.2.2.symm
      refine e.trans (it_t o2 (ix_s hs a1 l1 hL (ix_s hs a2 l2 hL (ix_s hs a3 l3 hL (rd_i rfl hB.k (clI_i h1 (ix_s hs1 a1 l1 hL (ix_s hs1 a2 l2 hL (ix_s hs1 a3 l3 hL (rd_i rfl hk1 ?_))))))))))
      rw [eA]
      exact clI_i h2 (it_t rfl hr))
  have e := e.trans (it_f o2 rfl)
  by_cases o3 : (aI M b (8 * k) &&& 63) = Int32.ofInt (3)
  · exact LwG.op (op_forget h (aI M b (8 * k + 1)) (aI M b (8 * k + 2))) ih hs (fun v M1 M2 h1 h2 hK hs1 hk1 {rr} hr => by
      obtain ⟨r, rfl⟩ := hK
      have eA : aI M1 b = aI M b := hs1.2.2.2.trans hs.2.2.2.symm
      refine e.trans (it_t o3 (ix_s hs a1 l1 hL (ix_s hs a2 l2 hL (rd_i rfl hB.k (clI_i h1 (ix_s hs1 a1 l1 hL (ix_s hs1 a2 l2 hL (rd_i rfl hk1 ?_))))))))
      rw [eA]
      exact clI_i h2 (it_t rfl hr))
  have e := e.trans (it_f o3 rfl)
  by_cases o4 : (aI M b (8 * k) &&& 63) = Int32.ofInt (4)
  · by_cases z : aI M b (8 * k + 2) = 0
    · exact LwG.op (op_fails h (aI M b (8 * k + 1)) 0 (Or.inl rfl)) ih hs (fun v M1 M2 h1 h2 hK hs1 hk1 {rr} hr => by
        obtain ⟨r, rfl⟩ := hK
        have eA : aI M1 b = aI M b := hs1.2.2.2.trans hs.2.2.2.symm
        refine e.trans (it_t o4 (ix_s hs a1 l1 hL (ix_s hs a2 l2 hL (it_t z (rd_i rfl hB.k (clI_i h1 (ix_s hs1 a1 l1 hL (ix_s hs1 a2 l2 hL (it_t (by rw [eA]; exact z) (rd_i rfl hk1 ?_))))))))))
        rw [eA]
        exact clI_i h2 (it_t rfl hr))
    · exact LwG.op (op_fails h (aI M b (8 * k + 1)) 1 (Or.inr rfl)) ih hs (fun v M1 M2 h1 h2 hK hs1 hk1 {rr} hr => by
        obtain ⟨r, rfl⟩ := hK
        have eA : aI M1 b = aI M b := hs1.2.2.2.trans hs.2.2.2.symm
        refine e.trans (it_t o4 (ix_s hs a1 l1 hL (ix_s hs a2 l2 hL (it_f z (rd_i rfl hB.k (clI_i h1 (ix_s hs1 a1 l1 hL (ix_s hs1 a2 l2 hL (it_f (by rw [eA]; exact z) (rd_i rfl hk1 ?_))))))))))
        rw [eA]
        exact clI_i h2 (it_t rfl hr))
  have e := e.trans (it_f o4 rfl)
  by_cases o5 : (aI M b (8 * k) &&& 63) = Int32.ofInt (5)
  · exact LwG.op (op_family h) ih hs (fun v M1 M2 h1 h2 hK hs1 hk1 {rr} hr => by
      obtain ⟨r, rfl⟩ := hK
      have eA : aI M1 b = aI M b := hs1.2.2.2.trans hs.2.2.2.symm
      refine e.trans (it_t o5 (rd_i rfl hB.k (clI_i h1 (rd_i rfl hk1 ?_))))
      exact clI_i h2 (it_t rfl hr))
  have e := e.trans (it_f o5 rfl)
  by_cases o6 : (aI M b (8 * k) &&& 63) = Int32.ofInt (6)
  · by_cases z : aI M b (8 * k + 2) = 0
    · exact LwG.op (op_permit h (aI M b (8 * k + 1)) 0 (aI M b (8 * k + 3))) ih hs (fun v M1 M2 h1 h2 hK hs1 hk1 {rr} hr => by
        obtain ⟨r, rfl⟩ := hK
        have eA : aI M1 b = aI M b := hs1.2.2.2.trans hs.2.2.2.symm
        refine e.trans (it_t o6 (ix_s hs a1 l1 hL (ix_s hs a2 l2 hL (it_t z (ix_s hs a3 l3 hL (rd_i rfl hB.k (clI_i h1 (ix_s hs1 a1 l1 hL (ix_s hs1 a2 l2 hL (it_t (by rw [eA]; exact z) (ix_s hs1 a3 l3 hL (rd_i rfl hk1 ?_))))))))))))
        rw [eA]
        exact clI_i h2 (it_t rfl hr))
    · exact LwG.op (op_permit h (aI M b (8 * k + 1)) 1 (aI M b (8 * k + 3))) ih hs (fun v M1 M2 h1 h2 hK hs1 hk1 {rr} hr => by
        obtain ⟨r, rfl⟩ := hK
        have eA : aI M1 b = aI M b := hs1.2.2.2.trans hs.2.2.2.symm
        refine e.trans (it_t o6 (ix_s hs a1 l1 hL (ix_s hs a2 l2 hL (it_f z (ix_s hs a3 l3 hL (rd_i rfl hB.k (clI_i h1 (ix_s hs1 a1 l1 hL (ix_s hs1 a2 l2 hL (it_f (by rw [eA]; exact z) (ix_s hs1 a3 l3 hL (rd_i rfl hk1 ?_))))))))))))
        rw [eA]
        exact clI_i h2 (it_t rfl hr))
  have e := e.trans (it_f o6 rfl)
  by_cases o7 : (aI M b (8 * k) &&& 63) = Int32.ofInt (7)
  · exact LwG.op (op_record h) ih hs (fun v M1 M2 h1 h2 hK hs1 hk1 {rr} hr => by
      obtain ⟨r, rfl⟩ := hK
      have eA : aI M1 b = aI M b := hs1.2.2.2.trans hs.2.2.2.symm
      refine e.trans (it_t o7 (rd_i rfl hB.k (clI_i h1 (rd_i rfl hk1 ?_))))
      exact clI_i h2 (it_t rfl hr))
  have e := e.trans (it_f o7 rfl)
  by_cases o8 : (aI M b (8 * k) &&& 63) = Int32.ofInt (8)
  · exact LwG.op (op_part h (aI M b (8 * k + 1)) ((((aI M b (8 * k + 2)).toInt64) <<< ((32 : Int32).toInt64 &&& 63)) ||| ((aI M b (8 * k + 3)).toInt64 &&& (4294967295 : Int64))) (aI M b (8 * k + 4)) (aI M b (8 * k + 5)) ((((aI M b (8 * k + 6)).toInt64) <<< ((32 : Int32).toInt64 &&& 63)) ||| ((aI M b (8 * k + 7)).toInt64 &&& (4294967295 : Int64)))) ih hs (fun v M1 M2 h1 h2 hK hs1 hk1 {rr} hr => by
      obtain ⟨r, rfl⟩ := hK
      have eA : aI M1 b = aI M b := hs1.2.2.2.trans hs.2.2.2.symm
      refine e.trans (it_t o8 (ix_s hs a1 l1 hL (ix_s hs a2 l2 hL (ix_s hs a3 l3 hL (ix_s hs a4 l4 hL (ix_s hs a5 l5 hL (ix_s hs a6 l6 hL (ix_s hs a7 l7 hL (rd_i rfl hB.k (clI_i h1 (ix_s hs1 a1 l1 hL (ix_s hs1 a2 l2 hL (ix_s hs1 a3 l3 hL (ix_s hs1 a4 l4 hL (ix_s hs1 a5 l5 hL (ix_s hs1 a6 l6 hL (ix_s hs1 a7 l7 hL (rd_i rfl hk1 ?_))))))))))))))))))
      rw [eA]
      exact clI_i h2 (it_t rfl hr))
  have e := e.trans (it_f o8 rfl)
  by_cases o9 : (aI M b (8 * k) &&& 63) = Int32.ofInt (9)
  · exact LwG.op (op_without h (aI M b (8 * k + 1)) (aI M b (8 * k + 2))) ih hs (fun v M1 M2 h1 h2 hK hs1 hk1 {rr} hr => by
      obtain ⟨r, rfl⟩ := hK
      have eA : aI M1 b = aI M b := hs1.2.2.2.trans hs.2.2.2.symm
      refine e.trans (it_t o9 (ix_s hs a1 l1 hL (ix_s hs a2 l2 hL (rd_i rfl hB.k (clI_i h1 (ix_s hs1 a1 l1 hL (ix_s hs1 a2 l2 hL (rd_i rfl hk1 ?_))))))))
      rw [eA]
      exact clI_i h2 (it_t rfl hr))
  have e := e.trans (it_f o9 rfl)
  by_cases o10 : (aI M b (8 * k) &&& 63) = Int32.ofInt (10)
  · exact LwG.op (op_becomes h (aI M b (8 * k + 1)) (aI M b (8 * k + 2)) (aI M b (8 * k + 3)) (aI M b (8 * k + 4))) ih hs (fun v M1 M2 h1 h2 hK hs1 hk1 {rr} hr => by
      obtain ⟨r, rfl⟩ := hK
      have eA : aI M1 b = aI M b := hs1.2.2.2.trans hs.2.2.2.symm
      refine e.trans (it_t o10 (ix_s hs a1 l1 hL (ix_s hs a2 l2 hL (ix_s hs a3 l3 hL (ix_s hs a4 l4 hL (rd_i rfl hB.k (clI_i h1 (ix_s hs1 a1 l1 hL (ix_s hs1 a2 l2 hL (ix_s hs1 a3 l3 hL (ix_s hs1 a4 l4 hL (rd_i rfl hk1 ?_))))))))))))
      rw [eA]
      exact clI_i h2 (it_t rfl hr))
  have e := e.trans (it_f o10 rfl)
  by_cases o11 : (aI M b (8 * k) &&& 63) = Int32.ofInt (11)
  · exact LwG.op (op_check h (aI M b (8 * k + 1)) (aI M b (8 * k + 2)) (aI M b (8 * k + 3)) ((((aI M b (8 * k + 4)).toInt64) <<< ((32 : Int32).toInt64 &&& 63)) ||| ((aI M b (8 * k + 5)).toInt64 &&& (4294967295 : Int64))) ((((aI M b (8 * k + 6)).toInt64) <<< ((32 : Int32).toInt64 &&& 63)) ||| ((aI M b (8 * k + 7)).toInt64 &&& (4294967295 : Int64)))) ih hs (fun v M1 M2 h1 h2 hK hs1 hk1 {rr} hr => by
      obtain ⟨r, rfl⟩ := hK
      have eA : aI M1 b = aI M b := hs1.2.2.2.trans hs.2.2.2.symm
      refine e.trans (it_t o11 (ix_s hs a1 l1 hL (ix_s hs a2 l2 hL (ix_s hs a3 l3 hL (ix_s hs a4 l4 hL (ix_s hs a5 l5 hL (ix_s hs a6 l6 hL (ix_s hs a7 l7 hL (rd_i rfl hB.k (clI_i h1 (ix_s hs1 a1 l1 hL (ix_s hs1 a2 l2 hL (ix_s hs1 a3 l3 hL (ix_s hs1 a4 l4 hL (ix_s hs1 a5 l5 hL (ix_s hs1 a6 l6 hL (ix_s hs1 a7 l7 hL (rd_i rfl hk1 ?_))))))))))))))))))
      rw [eA]
      exact clI_i h2 (it_t rfl hr))
  have e := e.trans (it_f o11 rfl)
  by_cases o12 : (aI M b (8 * k) &&& 63) = Int32.ofInt (12)
  · exact LwG.op (op_build h) ih hs (fun v M1 M2 h1 h2 hK hs1 hk1 {rr} hr => by
      obtain ⟨r, rfl⟩ := hK
      have eA : aI M1 b = aI M b := hs1.2.2.2.trans hs.2.2.2.symm
      refine e.trans (it_t o12 (rd_i rfl hB.k (clI_i h1 (rd_i rfl hk1 ?_))))
      exact clI_i h2 (it_t rfl hr))
  have e := e.trans (it_f o12 rfl)
  by_cases o13 : (aI M b (8 * k) &&& 63) = Int32.ofInt (13)
  · exact LwG.op (op_row h (aI M b (8 * k + 1)) (aI M b (8 * k + 2))) ih hs (fun v M1 M2 h1 h2 hK hs1 hk1 {rr} hr => by
      obtain ⟨r, rfl⟩ := hK
      have eA : aI M1 b = aI M b := hs1.2.2.2.trans hs.2.2.2.symm
      refine e.trans (it_t o13 (ix_s hs a1 l1 hL (ix_s hs a2 l2 hL (rd_i rfl hB.k (clI_i h1 (ix_s hs1 a1 l1 hL (ix_s hs1 a2 l2 hL (rd_i rfl hk1 ?_))))))))
      rw [eA]
      exact clI_i h2 (it_t rfl hr))
  have e := e.trans (it_f o13 rfl)
  by_cases o14 : (aI M b (8 * k) &&& 63) = Int32.ofInt (14)
  · exact LwG.op (op_put h (aI M b (8 * k + 1)) (aI M b (8 * k + 2)) ((((aI M b (8 * k + 3)).toInt64) <<< ((32 : Int32).toInt64 &&& 63)) ||| ((aI M b (8 * k + 4)).toInt64 &&& (4294967295 : Int64)))) ih hs (fun v M1 M2 h1 h2 hK hs1 hk1 {rr} hr => by
      obtain ⟨r, rfl⟩ := hK
      have eA : aI M1 b = aI M b := hs1.2.2.2.trans hs.2.2.2.symm
      refine e.trans (it_t o14 (ix_s hs a1 l1 hL (ix_s hs a2 l2 hL (ix_s hs a3 l3 hL (ix_s hs a4 l4 hL (rd_i rfl hB.k (clI_i h1 (ix_s hs1 a1 l1 hL (ix_s hs1 a2 l2 hL (ix_s hs1 a3 l3 hL (ix_s hs1 a4 l4 hL (rd_i rfl hk1 ?_))))))))))))
      rw [eA]
      exact clI_i h2 (it_t rfl hr))
  have e := e.trans (it_f o14 rfl)
  by_cases o15 : (aI M b (8 * k) &&& 63) = Int32.ofInt (15)
  · exact LwG.op (op_item h (aI M b (8 * k + 1)) (aI M b (8 * k + 2))) ih hs (fun v M1 M2 h1 h2 hK hs1 hk1 {rr} hr => by
      obtain ⟨r, rfl⟩ := hK
      have eA : aI M1 b = aI M b := hs1.2.2.2.trans hs.2.2.2.symm
      refine e.trans (it_t o15 (ix_s hs a1 l1 hL (ix_s hs a2 l2 hL (rd_i rfl hB.k (clJ_i h1 (ix_s hs1 a1 l1 hL (ix_s hs1 a2 l2 hL (rd_i rfl hk1 ?_))))))))
      rw [eA]
      exact clJ_i h2 (it_t (cmp_eq0.mpr rfl) hr))
  have e := e.trans (it_f o15 rfl)
  by_cases o16 : (aI M b (8 * k) &&& 63) = Int32.ofInt (16)
  · exact LwG.op (op_size h (aI M b (8 * k + 1))) ih hs (fun v M1 M2 h1 h2 hK hs1 hk1 {rr} hr => by
      obtain ⟨r, rfl⟩ := hK
      have eA : aI M1 b = aI M b := hs1.2.2.2.trans hs.2.2.2.symm
      refine e.trans (it_t o16 (ix_s hs a1 l1 hL (rd_i rfl hB.k (clI_i h1 (ix_s hs1 a1 l1 hL (rd_i rfl hk1 ?_))))))
      rw [eA]
      exact clI_i h2 (it_t rfl hr))
  have e := e.trans (it_f o16 rfl)
  by_cases o17 : (aI M b (8 * k) &&& 63) = Int32.ofInt (17)
  · exact LwG.op (op_give h (aI M b (8 * k + 1)) ((((aI M b (8 * k + 2)).toInt64) <<< ((32 : Int32).toInt64 &&& 63)) ||| ((aI M b (8 * k + 3)).toInt64 &&& (4294967295 : Int64)))) ih hs (fun v M1 M2 h1 h2 hK hs1 hk1 {rr} hr => by
      obtain ⟨r, rfl⟩ := hK
      have eA : aI M1 b = aI M b := hs1.2.2.2.trans hs.2.2.2.symm
      refine e.trans (it_t o17 (ix_s hs a1 l1 hL (ix_s hs a2 l2 hL (ix_s hs a3 l3 hL (rd_i rfl hB.k (clI_i h1 (ix_s hs1 a1 l1 hL (ix_s hs1 a2 l2 hL (ix_s hs1 a3 l3 hL (rd_i rfl hk1 ?_))))))))))
      rw [eA]
      exact clI_i h2 (it_t rfl hr))
  have e := e.trans (it_f o17 rfl)
  by_cases o18 : (aI M b (8 * k) &&& 63) = Int32.ofInt (18)
  · exact LwG.op (op_make h (aI M b (8 * k + 1))) ih hs (fun v M1 M2 h1 h2 hK hs1 hk1 {rr} hr => by
      obtain ⟨r, rfl⟩ := hK
      have eA : aI M1 b = aI M b := hs1.2.2.2.trans hs.2.2.2.symm
      refine e.trans (it_t o18 (ix_s hs a1 l1 hL (rd_i rfl hB.k (clI_i h1 (ix_s hs1 a1 l1 hL (rd_i rfl hk1 ?_))))))
      rw [eA]
      exact clI_i h2 (it_t rfl hr))
  have e := e.trans (it_f o18 rfl)
  by_cases o19 : (aI M b (8 * k) &&& 63) = Int32.ofInt (19)
  · exact LwG.op (op_cause h (aI M b (8 * k + 1))) ih hs (fun v M1 M2 h1 h2 hK hs1 hk1 {rr} hr => by
      obtain ⟨r, rfl⟩ := hK
      have eA : aI M1 b = aI M b := hs1.2.2.2.trans hs.2.2.2.symm
      refine e.trans (it_t o19 (ix_s hs a1 l1 hL (rd_i rfl hB.k (clI_i h1 (ix_s hs1 a1 l1 hL (rd_i rfl hk1 ?_))))))
      rw [eA]
      exact clI_i h2 (it_t rfl hr))
  have e := e.trans (it_f o19 rfl)
  by_cases o20 : (aI M b (8 * k) &&& 63) = Int32.ofInt (20)
  · exact LwG.op (op_told h (aI M b (8 * k + 1)) (aI M b (8 * k + 2))) ih hs (fun v M1 M2 h1 h2 hK hs1 hk1 {rr} hr => by
      obtain ⟨r, rfl⟩ := hK
      have eA : aI M1 b = aI M b := hs1.2.2.2.trans hs.2.2.2.symm
      refine e.trans (it_t o20 (ix_s hs a1 l1 hL (ix_s hs a2 l2 hL (rd_i rfl hB.k (clJ_i h1 (ix_s hs1 a1 l1 hL (ix_s hs1 a2 l2 hL (rd_i rfl hk1 ?_))))))))
      rw [eA]
      exact clJ_i h2 (it_t (cmp_eq0.mpr rfl) hr))
  have e := e.trans (it_f o20 rfl)
  by_cases o21 : (aI M b (8 * k) &&& 63) = Int32.ofInt (21)
  · exact LwG.op (op_of h (aI M b (8 * k + 1))) ih hs (fun v M1 M2 h1 h2 hK hs1 hk1 {rr} hr => by
      obtain ⟨r, rfl⟩ := hK
      have eA : aI M1 b = aI M b := hs1.2.2.2.trans hs.2.2.2.symm
      refine e.trans (it_t o21 (ix_s hs a1 l1 hL (rd_i rfl hB.k (clI_i h1 (ix_s hs1 a1 l1 hL (rd_i rfl hk1 ?_))))))
      rw [eA]
      exact clI_i h2 (it_t rfl hr))
  have e := e.trans (it_f o21 rfl)
  by_cases o22 : (aI M b (8 * k) &&& 63) = Int32.ofInt (22)
  · exact LwG.op (op_tag h (aI M b (8 * k + 1)) (aI M b (8 * k + 2))) ih hs (fun v M1 M2 h1 h2 hK hs1 hk1 {rr} hr => by
      obtain ⟨r, rfl⟩ := hK
      have eA : aI M1 b = aI M b := hs1.2.2.2.trans hs.2.2.2.symm
      refine e.trans (it_t o22 (ix_s hs a1 l1 hL (ix_s hs a2 l2 hL (rd_i rfl hB.k (clI_i h1 (ix_s hs1 a1 l1 hL (ix_s hs1 a2 l2 hL (rd_i rfl hk1 ?_))))))))
      rw [eA]
      exact clI_i h2 (it_t rfl hr))
  have e := e.trans (it_f o22 rfl)
  by_cases o23 : (aI M b (8 * k) &&& 63) = Int32.ofInt (23)
  · exact LwG.op (op_same h (aI M b (8 * k + 1)) (aI M b (8 * k + 2))) ih hs (fun v M1 M2 h1 h2 hK hs1 hk1 {rr} hr => by
      obtain ⟨r, rfl⟩ := hK
      have eA : aI M1 b = aI M b := hs1.2.2.2.trans hs.2.2.2.symm
      refine e.trans (it_t o23 (ix_s hs a1 l1 hL (ix_s hs a2 l2 hL (rd_i rfl hB.k (clI_i h1 (ix_s hs1 a1 l1 hL (ix_s hs1 a2 l2 hL (rd_i rfl hk1 ?_))))))))
      rw [eA]
      exact clI_i h2 (it_t rfl hr))
  have e := e.trans (it_f o23 rfl)
  by_cases o24 : (aI M b (8 * k) &&& 63) = Int32.ofInt (24)
  · exact LwG.op (op_named h (aI M b (8 * k + 1)) ((((aI M b (8 * k + 2)).toInt64) <<< ((32 : Int32).toInt64 &&& 63)) ||| ((aI M b (8 * k + 3)).toInt64 &&& (4294967295 : Int64)))) ih hs (fun v M1 M2 h1 h2 hK hs1 hk1 {rr} hr => by
      obtain ⟨r, rfl⟩ := hK
      have eA : aI M1 b = aI M b := hs1.2.2.2.trans hs.2.2.2.symm
      refine e.trans (it_t o24 (ix_s hs a1 l1 hL (ix_s hs a2 l2 hL (ix_s hs a3 l3 hL (rd_i rfl hB.k (clI_i h1 (ix_s hs1 a1 l1 hL (ix_s hs1 a2 l2 hL (ix_s hs1 a3 l3 hL (rd_i rfl hk1 ?_))))))))))
      rw [eA]
      exact clI_i h2 (it_t rfl hr))
  have e := e.trans (it_f o24 rfl)
  by_cases o25 : (aI M b (8 * k) &&& 63) = Int32.ofInt (25)
  · exact LwG.op (op_work h (aI M b (8 * k + 1)) (aI M b (8 * k + 2)) (aI M b (8 * k + 3)) (aI M b (8 * k + 4))) ih hs (fun v M1 M2 h1 h2 hK hs1 hk1 {rr} hr => by
      obtain ⟨r, rfl⟩ := hK
      have eA : aI M1 b = aI M b := hs1.2.2.2.trans hs.2.2.2.symm
      refine e.trans (it_t o25 (ix_s hs a1 l1 hL (ix_s hs a2 l2 hL (ix_s hs a3 l3 hL (ix_s hs a4 l4 hL (rd_i rfl hB.k (clJ_i h1 (ix_s hs1 a1 l1 hL (ix_s hs1 a2 l2 hL (ix_s hs1 a3 l3 hL (ix_s hs1 a4 l4 hL (rd_i rfl hk1 ?_))))))))))))
      rw [eA]
      exact clJ_i h2 (it_t (cmp_eq0.mpr rfl) hr))
  have e := e.trans (it_f o25 rfl)
  by_cases o26 : (aI M b (8 * k) &&& 63) = Int32.ofInt (26)
  · exact LwG.op (op_started h (aI M b (8 * k + 1))) ih hs (fun v M1 M2 h1 h2 hK hs1 hk1 {rr} hr => by
      obtain ⟨r, rfl⟩ := hK
      have eA : aI M1 b = aI M b := hs1.2.2.2.trans hs.2.2.2.symm
      refine e.trans (it_t o26 (ix_s hs a1 l1 hL (rd_i rfl hB.k (clI_i h1 (ix_s hs1 a1 l1 hL (rd_i rfl hk1 ?_))))))
      rw [eA]
      exact clI_i h2 (it_t rfl hr))
  have e := e.trans (it_f o26 rfl)
  by_cases o27 : (aI M b (8 * k) &&& 63) = Int32.ofInt (27)
  · exact LwG.op (op_keep h (aI M b (8 * k + 1))) ih hs (fun v M1 M2 h1 h2 hK hs1 hk1 {rr} hr => by
      obtain ⟨r, rfl⟩ := hK
      have eA : aI M1 b = aI M b := hs1.2.2.2.trans hs.2.2.2.symm
      refine e.trans (it_t o27 (ix_s hs a1 l1 hL (rd_i rfl hB.k (clI_i h1 (ix_s hs1 a1 l1 hL (rd_i rfl hk1 ?_))))))
      rw [eA]
      exact clI_i h2 (it_t rfl hr))
  have e := e.trans (it_f o27 rfl)
  by_cases o28 : (aI M b (8 * k) &&& 63) = Int32.ofInt (28)
  · exact LwG.op (op_load h (aI M b (8 * k + 1))) ih hs (fun v M1 M2 h1 h2 hK hs1 hk1 {rr} hr => by
      obtain ⟨r, rfl⟩ := hK
      have eA : aI M1 b = aI M b := hs1.2.2.2.trans hs.2.2.2.symm
      refine e.trans (it_t o28 (ix_s hs a1 l1 hL (rd_i rfl hB.k (clI_i h1 (ix_s hs1 a1 l1 hL (rd_i rfl hk1 ?_))))))
      rw [eA]
      exact clI_i h2 (it_t rfl hr))
  have e := e.trans (it_f o28 rfl)
  by_cases o29 : (aI M b (8 * k) &&& 63) = Int32.ofInt (29)
  · exact LwG.op (op_line h (aI M b (8 * k + 1)) (aI M b (8 * k + 2))) ih hs (fun v M1 M2 h1 h2 hK hs1 hk1 {rr} hr => by
      obtain ⟨r, rfl⟩ := hK
      have eA : aI M1 b = aI M b := hs1.2.2.2.trans hs.2.2.2.symm
      refine e.trans (it_t o29 (ix_s hs a1 l1 hL (ix_s hs a2 l2 hL (rd_i rfl hB.k (clI_i h1 (ix_s hs1 a1 l1 hL (ix_s hs1 a2 l2 hL (rd_i rfl hk1 ?_))))))))
      rw [eA]
      exact clI_i h2 (it_t rfl hr))
  have e := e.trans (it_f o29 rfl)
  by_cases o30 : (aI M b (8 * k) &&& 63) = Int32.ofInt (30)
  · exact LwG.op (op_word h ((((aI M b (8 * k + 1)).toInt64) <<< ((32 : Int32).toInt64 &&& 63)) ||| ((aI M b (8 * k + 2)).toInt64 &&& (4294967295 : Int64))) ((((aI M b (8 * k + 3)).toInt64) <<< ((32 : Int32).toInt64 &&& 63)) ||| ((aI M b (8 * k + 4)).toInt64 &&& (4294967295 : Int64))) (aI M b (8 * k + 5))) ih hs (fun v M1 M2 h1 h2 hK hs1 hk1 {rr} hr => by
      obtain ⟨r, rfl⟩ := hK
      have eA : aI M1 b = aI M b := hs1.2.2.2.trans hs.2.2.2.symm
      refine e.trans (it_t o30 (ix_s hs a1 l1 hL (ix_s hs a2 l2 hL (ix_s hs a3 l3 hL (ix_s hs a4 l4 hL (ix_s hs a5 l5 hL (rd_i rfl hB.k (clI_i h1 (ix_s hs1 a1 l1 hL (ix_s hs1 a2 l2 hL (ix_s hs1 a3 l3 hL (ix_s hs1 a4 l4 hL (ix_s hs1 a5 l5 hL (rd_i rfl hk1 ?_))))))))))))))
      rw [eA]
      exact clI_i h2 (it_t rfl hr))
  have e := e.trans (it_f o30 rfl)
  by_cases o31 : (aI M b (8 * k) &&& 63) = Int32.ofInt (31)
  · exact LwG.op (op_range h ((((aI M b (8 * k + 1)).toInt64) <<< ((32 : Int32).toInt64 &&& 63)) ||| ((aI M b (8 * k + 2)).toInt64 &&& (4294967295 : Int64))) (aI M b (8 * k + 3)) (aI M b (8 * k + 4)) (aI M b (8 * k + 5)) (aI M b (8 * k + 6))) ih hs (fun v M1 M2 h1 h2 hK hs1 hk1 {rr} hr => by
      obtain ⟨r, rfl⟩ := hK
      have eA : aI M1 b = aI M b := hs1.2.2.2.trans hs.2.2.2.symm
      refine e.trans (it_t o31 (ix_s hs a1 l1 hL (ix_s hs a2 l2 hL (ix_s hs a3 l3 hL (ix_s hs a4 l4 hL (ix_s hs a5 l5 hL (ix_s hs a6 l6 hL (rd_i rfl hB.k (clI_i h1 (ix_s hs1 a1 l1 hL (ix_s hs1 a2 l2 hL (ix_s hs1 a3 l3 hL (ix_s hs1 a4 l4 hL (ix_s hs1 a5 l5 hL (ix_s hs1 a6 l6 hL (rd_i rfl hk1 ?_))))))))))))))))
      rw [eA]
      exact clI_i h2 (it_t rfl hr))
  have e := e.trans (it_f o31 rfl)
  by_cases o32 : (aI M b (8 * k) &&& 63) = Int32.ofInt (32)
  · exact LwG.op (op_count h (aI M b (8 * k + 1))) ih hs (fun v M1 M2 h1 h2 hK hs1 hk1 {rr} hr => by
      obtain ⟨r, rfl⟩ := hK
      have eA : aI M1 b = aI M b := hs1.2.2.2.trans hs.2.2.2.symm
      refine e.trans (it_t o32 (ix_s hs a1 l1 hL (rd_i rfl hB.k (clI_i h1 (ix_s hs1 a1 l1 hL (rd_i rfl hk1 ?_))))))
      rw [eA]
      exact clI_i h2 (it_t rfl hr))
  have e := e.trans (it_f o32 rfl)
  by_cases o33 : (aI M b (8 * k) &&& 63) = Int32.ofInt (33)
  · exact LwG.op (op_about h (aI M b (8 * k + 1)) (aI M b (8 * k + 2))) ih hs (fun v M1 M2 h1 h2 hK hs1 hk1 {rr} hr => by
      obtain ⟨r, rfl⟩ := hK
      have eA : aI M1 b = aI M b := hs1.2.2.2.trans hs.2.2.2.symm
      refine e.trans (it_t o33 (ix_s hs a1 l1 hL (ix_s hs a2 l2 hL (rd_i rfl hB.k (clI_i h1 (ix_s hs1 a1 l1 hL (ix_s hs1 a2 l2 hL (rd_i rfl hk1 ?_))))))))
      rw [eA]
      exact clI_i h2 (it_t rfl hr))
  have e := e.trans (it_f o33 rfl)
  obtain ⟨Me, nn, g1, g2, g3, g4⟩ := ih E R F W O T S jW jO M h hs
  refine ⟨Me, nn, e.trans ?_, g2, g3, by omega⟩
  rw [show nI (8 * k) + 8 = nI (8 * (k + 1)) from nI_plus (8 * k) 8]
  exact g1
theorem Inv.pt (h : Inv x E R F W O T S jW jO M) : pot W O T jW jO ≤ 668 := by
  have := h.2.1.2.2.2.2.2.2.1.2.1
  obtain ⟨b1, b2, b3, b4, b5, b6, b7, b8, -⟩ := h.2.2.2.2.2.2.2
  unfold pot
  omega
theorem law_loop {b L : Nat} {xs : Nat → Int32} (hL : L ≤ 4096) : ∀ (n k : Nat) (E : List TE) (R : List TR) (F : List TF) (W : List TW) (O : List TO) (T : List TL) (S : TS) (jW jO : Nat) (M : Mem), k ≤ 513 → L < 8 * (k + n) + 8 → Inv x E R F W O T S jW jO M → SC x b L xs M → LwG x b k n W O T jW jO M := by
  have stop : ∀ (n k : Nat) (E : List TE) (R : List TR) (F : List TF) (W : List TW) (O : List TO) (T : List TL) (S : TS) (jW jO : Nat) (M : Mem), k ≤ 513 → L < 8 * k + 8 → Inv x E R F W O T S jW jO M → SC x b L xs M → LwG x b k n W O T jW jO M := fun n k E R F W O T S jW jO M hk hl h hs => by
    have hp := h.pt
    refine ⟨M, 0, (tL_law_18 (some b) (some x) (some (x + 12)) (nI (8 * k)) M).trans (al_i rfl ?_ (it_t ?_ (zo_i (Or.inr rfl) rfl))), by omega, by omega, by omega⟩
    · rw [hs.2.1]; omega
    · rw [hs.2.2.1, nI_sub8 hL (by omega)]
      exact hl
  intro n
  induction n with
  | zero => exact fun k E R F W O T S jW jO M hk hl h hs => stop 0 k E R F W O T S jW jO M hk (by omega) h hs
  | succ n ih =>
    intro k E R F W O T S jW jO M hk hl h hs
    by_cases c : L < 8 * k + 8
    · exact stop (n + 1) k E R F W O T S jW jO M hk c h hs
    · exact law_step h hs hL (by omega) (fun E R F W O T S jW jO M h hs => ih (k + 1) E R F W O T S jW jO M (by omega) (by omega) h hs)
end OPS
