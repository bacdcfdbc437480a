/-! KEEPING: the model's writeValue -/
section OPS
variable {x : Nat} {E E' : List TE} {R R' : List TR} {F F' : List TF} {W W' : List TW} {O O' : List TO} {T T' : List TL} {S S' : TS} {jW jO jW' jO' n : Nat} {M M' M1 : Mem}
theorem and1 (y : Int64) : (y &&& (1 : Int64)) = 0 ∨ (y &&& (1 : Int64)) = 1 := by
  have e : (y &&& (1 : Int64)).toUInt64.toNat = y.toUInt64.toNat % 2 := by
    rw [Int64.toUInt64_and, UInt64.toNat_and, show (Int64.toUInt64 1).toNat = 1 from rfl, Nat.and_one_is_mod]
  have : y.toUInt64.toNat % 2 = 0 ∨ y.toUInt64.toNat % 2 = 1 := by omega
  rcases this with z | z
  · exact Or.inl (N64_inj (show (y &&& (1 : Int64)).toUInt64.toNat = (0 : Int64).toUInt64.toNat by rw [e, z]; rfl))
  · exact Or.inr (N64_inj (show (y &&& (1 : Int64)).toUInt64.toNat = (1 : Int64).toUInt64.toNat by rw [e, z]; rfl))
/-- the model writes what is kept at one place: nothing before it changes -/
def UV (m to : Nat) (M M' : Mem) : Prop := (kd M' = kd M ∧ ln M' = ln M ∧ gR M' = gR M ∧ gI M' = gI M) ∧ CU m M M' ∧ (∀ i, i ≠ 39 → aI M' (m + i) = aI M (m + i)) ∧ (∀ i, i ≠ 37 → i ≠ 38 → aJ M' (m + i) = aJ M (m + i)) ∧ (∀ j, j < to → aI M' (m + 39) j = aI M (m + 39) j ∧ aJ M' (m + 37) j = aJ M (m + 37) j) ∧ ∀ j, j < 16 * to → aJ M' (m + 38) j = aJ M (m + 38) j
section UV
variable {m to : Nat}
theorem UV.rf : UV m to M M := ⟨⟨rfl, rfl, rfl, rfl⟩, CU.rf, fun _ _ => rfl, fun _ _ _ => rfl, fun _ _ => ⟨rfl, rfl⟩, fun _ _ => rfl⟩
theorem UV.tr {M2 : Mem} (h : UV m to M M1) (g : UV m to M1 M2) : UV m to M M2 := by
  obtain ⟨⟨a1, a2, a3, a4⟩, b, c, d, e, f⟩ := h
  obtain ⟨⟨a1', a2', a3', a4'⟩, b', c', d', e', f'⟩ := g
  exact ⟨⟨a1'.trans a1, a2'.trans a2, a3'.trans a3, a4'.trans a4⟩, b.tr b', fun i hi => (c' i hi).trans (c i hi), fun i h1 h2 => (d' i h1 h2).trans (d i h1 h2), fun j hj => ⟨(e' j hj).1.trans (e j hj).1, (e' j hj).2.trans (e j hj).2⟩, fun j hj => (f' j hj).trans (f j hj)⟩
theorem UV.w37 {p : Nat} {v : Int64} (h : UV m to M M1) (hp : to ≤ p) : UV m to M (wJ M1 (m + 37) p v) := h.tr ⟨⟨rfl, rfl, rfl, rfl⟩, CU.rf.wJ (by omega), fun _ _ => rfl, fun i h1 _ => by rw [aJ_wJ, up1_no (by omega)], fun j hj => ⟨rfl, by rw [aJ_wJ, up1_at, up1_no (by omega)]⟩, fun j _ => by rw [aJ_wJ, up1_no (by omega)]⟩
theorem UV.w39 {p : Nat} {v : Int32} (h : UV m to M M1) (hp : to ≤ p) : UV m to M (wI M1 (m + 39) p v) := h.tr ⟨⟨rfl, rfl, rfl, rfl⟩, CU.rf.wI (by omega), fun i h1 => by rw [aI_wI, up1_no (by omega)], fun _ _ _ => rfl, fun j hj => ⟨by rw [aI_wI, up1_at, up1_no (by omega)], rfl⟩, fun j _ => rfl⟩
theorem UV.w38 {p : Nat} {v : Int64} (h : UV m to M M1) (hp : 16 * to ≤ p) : UV m to M (wJ M1 (m + 38) p v) := h.tr ⟨⟨rfl, rfl, rfl, rfl⟩, CU.rf.wJ (by omega), fun _ _ => rfl, fun i _ h1 => by rw [aJ_wJ, up1_no (by omega)], fun j hj => ⟨rfl, by rw [aJ_wJ, up1_no (by omega)]⟩, fun j hj => by rw [aJ_wJ, up1_at, up1_no (by omega)]⟩
theorem MB.uv (h : MB m M) (u : UV m to M M') : MB m M' := by
  obtain ⟨⟨u1, u2, u3, -⟩, -⟩ := u
  exact ⟨by rw [u1]; exact h.1, fun q hq => by rw [u1, u2, u3]; exact h.2 q hq⟩
theorem ME.uv (h : ME m M E) (u : UV m to M M') : ME m M' E := by
  obtain ⟨⟨-, -, -, u4⟩, -, c, d, -⟩ := u
  exact h.cg (by rw [u4]) (c _ (by omega)) (c _ (by omega)) (c _ (by omega)) (c _ (by omega)) (c _ (by omega)) (d _ (by omega) (by omega))
theorem MW.uv (h : MW m M W) (u : UV m to M M') : MW m M' W := by
  obtain ⟨⟨-, -, -, u4⟩, -, c, d, -⟩ := u
  exact h.cg (by rw [u4]) (c _ (by omega)) (c _ (by omega)) (d _ (by omega) (by omega))
end UV
theorem m_wv188 {m to r k : Nat} (hto : to < 384) (hr : r < 440) (hk : k ≤ 16) : ∀ (n i : Nat) (M : Mem), n + i = k → MB m M → aI M (m + 39) to = nI k → ∃ M', rn PP 215 188 [some (pR (some m)), some (pI (nI to)), none, none, some (pJ (lN r)), none, some (pI (nI i))] [] M = some (none, M') ∧ UV m to M M' ∧ aI M' (m + 39) = aI M (m + 39) ∧ aJ M' (m + 37) = aJ M (m + 37) ∧ (∀ j, i ≤ j → j < k → aJ M' (m + 38) (16 * to + j) = aJ M (m + 24) (16 * r + j)) ∧ (∀ j, j < 16 * to + i → aJ M' (m + 38) j = aJ M (m + 38) j) := by
  intro n
  induction n with
  | zero =>
    intro i M hi mB h39
    refine ⟨M, ?_, UV.rf, rfl, rfl, fun j h1 h2 => by omega, fun _ _ => rfl⟩
    rw [tX12_writeValue_188]
    exact rd_i rfl mB.k (ix_m (n := to) mB.a39 rfl (by omega) (by omega) (it_t (by rw [h39]; exact nI_le (by omega) (by omega)) rfl))
  | succ n ih =>
    intro i M hi mB h39
    have uv : UV m to M (wJ M (m + 38) (16 * to + i) (aJ M (m + 24) (16 * r + i))) := UV.rf.w38 (by omega)
    have ew : aJ (wJ M (m + 38) (16 * to + i) (aJ M (m + 24) (16 * r + i))) (m + 38) = up1 (aJ M (m + 38)) (16 * to + i) (aJ M (m + 24) (16 * r + i)) := by rw [aJ_wJ, up1_at]
    obtain ⟨M', e1, e2, e3, e4, e5, e6⟩ := ih (i + 1) (wJ M (m + 38) (16 * to + i) (aJ M (m + 24) (16 * r + i))) (by omega) (mB.uv uv) (by rw [aI_wJ]; exact h39)
    refine ⟨M', ?_, uv.tr e2, by rw [e3, aI_wJ], by rw [e4, aJ_wJ, up1_no (by omega)], fun j h1 h2 => ?_, fun j hj => ?_⟩
    · rw [tX12_writeValue_188]
      refine rd_i rfl mB.k (ix_m (n := to) mB.a39 rfl (by omega) (by omega) (it_f (by rw [h39]; exact nI_ge (by omega) (by omega)) (rd_i rfl mB.k (rd_i rfl mB.k (ix_m (n := 16 * r + i) mB.a24 (by rw [lN_i]; exact m16 r i) (by omega) (by omega) (ix_m (n := 16 * to + i) mB.a38 (m16 to i) (by omega) (by omega) (bd_i ?_)))))))
      rw [nI_1]
      exact e1
    · by_cases c : j = i
      · subst c
        rw [e6 _ (by omega), ew, up1_at]
      · rw [e5 j (by omega) h2, aJ_wJ, up1_no (by omega)]
    · rw [e6 j (by omega), ew, up1_no (by omega)]
theorem m_wv85 {m to e : Nat} {qe : TE} {v : Int64} (hto : to < 384) (hq : E[e]? = some qe) : ∀ (n i c : Nat) (M : Mem), n + i = qe.1.length → c ≤ i → MB m M → ME m M E → aI M (m + 39) to = nI c → ∃ M', rn PP 215 85 [some (pR (some m)), some (pI (nI to)), some (pI 9), some (pI (nI e)), some (pJ v), none, some (pI (nI i))] [] M = some (none, M') ∧ UV m to M M' ∧ aJ M' (m + 37) = aJ M (m + 37) ∧ aI M' (m + 39) to = nI (c + (nms (qe.1.drop i) v i).length) ∧ (∀ (j : Nat) (w : Int64), (nms (qe.1.drop i) v i)[j]? = some w → aJ M' (m + 38) (16 * to + c + j) = w) ∧ (∀ j, j < 16 * to + c → aJ M' (m + 38) j = aJ M (m + 38) j) := by
  intro n
  induction n with
  | zero =>
    intro i c M hi hci mB mE h39
    have he : e < E.length := (List.getElem?_eq_some_iff.mp hq).1
    have he4 := mE.2.1
    obtain ⟨z1, z2, z3, -⟩ := mE.2.2.1 e qe hq
    rw [List.drop_of_length_le (show qe.1.length ≤ i by omega)]
    refine ⟨M, ?_, UV.rf, rfl, h39, (fun j w h => nomatch h), fun _ _ => rfl⟩
    rw [tX12_writeValue_85]
    exact it_f (not_not_intro rfl) (rd_i rfl mB.k (ix_m (n := e) mB.a1 rfl (by omega) (by omega) (it_t (by rw [z2]; exact nI_le (by omega) (by omega)) (it_t (by decide) rfl))))
  | succ n ih =>
    intro i c M hi hci mB mE h39
    have he : e < E.length := (List.getElem?_eq_some_iff.mp hq).1
    have he4 := mE.2.1
    obtain ⟨z1, z2, z3, -⟩ := mE.2.2.1 e qe hq
    obtain ⟨q, hqq, hdq⟩ := drop_get (l := qe.1) (i := i) (by omega)
    have en : nms (q :: qe.1.drop (i + 1)) v i = if bt v i = true then q.1 :: nms (qe.1.drop (i + 1)) v (i + 1) else nms (qe.1.drop (i + 1)) v (i + 1) := by rw [nms]
    rw [hdq, en]
    rcases and1 (v >>> ((nI i).toInt64 &&& 63)) with hb | hb
    · have nb : ¬ bt v i = true := fun z => of_decide_eq_true z hb
      rw [if_neg nb]
      obtain ⟨M', e1, e2, e3, e4, e5, e6⟩ := ih (i + 1) c M (by omega) (by omega) mB mE h39
      refine ⟨M', ?_, e2, e3, e4, e5, e6⟩
      rw [tX12_writeValue_85]
      refine it_f (not_not_intro rfl) (rd_i rfl mB.k (ix_m (n := e) mB.a1 rfl (by omega) (by omega) (it_f (by rw [z2]; exact nI_ge (by omega) (by omega)) (it_t ?_ ?_))))
      · rw [hb]; decide
      · rw [nI_1]; exact e1
    · have yb : bt v i = true := decide_eq_true (by rw [hb]; decide)
      rw [if_pos yb]
      have u1 : UV m to M (wJ M (m + 38) (16 * to + c) q.1) := UV.rf.w38 (by omega)
      have u2 : UV m to M (wI (wJ M (m + 38) (16 * to + c) q.1) (m + 39) to (nI (c + 1))) := u1.w39 (Nat.le_refl _)
      have e39 : aI (wJ M (m + 38) (16 * to + c) q.1) (m + 39) to = nI c := by rw [aI_wJ]; exact h39
      have mB1 := mB.uv u1
      have ew : aJ (wI (wJ M (m + 38) (16 * to + c) q.1) (m + 39) to (nI (c + 1))) (m + 38) = up1 (aJ M (m + 38)) (16 * to + c) q.1 := by rw [aJ_wI, aJ_wJ, up1_at]
      have ew7 : aJ (wI (wJ M (m + 38) (16 * to + c) q.1) (m + 39) to (nI (c + 1))) (m + 37) = aJ M (m + 37) := by rw [aJ_wI, aJ_wJ, up1_no (by omega)]
      have h39' : aI (wI (wJ M (m + 38) (16 * to + c) q.1) (m + 39) to (nI (c + 1))) (m + 39) to = nI (c + 1) := by rw [aI_wI, up1_at, up1_at]
      have step : ∀ {rr : Option Rt}, rn PP 215 85 [some (pR (some m)), some (pI (nI to)), some (pI 9), some (pI (nI e)), some (pJ v), none, some (pI (nI (i + 1)))] [] (wI (wJ M (m + 38) (16 * to + c) q.1) (m + 39) to (nI (c + 1))) = rr → rn PP 215 85 [some (pR (some m)), some (pI (nI to)), some (pI 9), some (pI (nI e)), some (pJ v), none, some (pI (nI i))] [] M = rr := fun {rr} hr => by
        rw [tX12_writeValue_85]
        refine it_f (not_not_intro rfl) (rd_i rfl mB.k (ix_m (n := e) mB.a1 rfl (by omega) (by omega) (it_f (by rw [z2]; exact nI_ge (by omega) (by omega)) (it_f (not_not_intro (by rw [hb]; decide)) (rd_i rfl mB.k (rd_i rfl mB.k (ix_m (n := to) mB.a39 rfl (by omega) (by omega) (rd_i rfl mB.k (ix_m (n := 8 * e + i) mB.a2 (m8 e i) (by omega) (by omega) (ix_m (n := 16 * to + c) mB.a38 (by rw [h39]; exact m16 to c) (by omega) (by omega) ?_))))))))))
        rw [(z3 i q hqq).1]
        refine bd_i (rd_i rfl mB1.k (ix_m (n := to) mB1.a39 rfl (by omega) (by omega) (ix_m (n := to) mB1.a39 rfl (by omega) (by omega) ?_)))
        rw [e39, nI_1, nI_1]
        exact bd_i hr
      generalize wI (wJ M (m + 38) (16 * to + c) q.1) (m + 39) to (nI (c + 1)) = M2 at u2 ew ew7 h39' step
      obtain ⟨M', e1, e2, e3, e4, e5, e6⟩ := ih (i + 1) (c + 1) M2 (by omega) (by omega) (mB.uv u2) (mE.uv u2) h39'
      refine ⟨M', step e1, u2.tr e2, e3.trans ew7, ?_, fun j w hw => ?_, fun j hj => ?_⟩
      · rw [e4, List.length_cons, show c + 1 + (nms (qe.1.drop (i + 1)) v (i + 1)).length = c + ((nms (qe.1.drop (i + 1)) v (i + 1)).length + 1) by omega]
      · cases j with
        | zero =>
          have hw : q.1 = w := Option.some.inj hw
          show aJ M' (m + 38) (16 * to + c) = w
          rw [e6 _ (by omega), ew, up1_at]
          exact hw
        | succ j =>
          have hw : (nms (qe.1.drop (i + 1)) v (i + 1))[j]? = some w := hw
          have := e5 j w hw
          rw [show 16 * to + c + (j + 1) = 16 * to + (c + 1) + j by omega]
          exact this
      · rw [e6 j (by omega), ew, up1_no (by omega)]
theorem m_wv {m to o : Nat} {t : TP} {v : Int64} (hto : to < 384) (mB : MB m M) (mE : ME m M E) (mW : MW m M W) (hs : srtOK E.length F.length t.2.1 t.2.2.1) (hv : valOK E F W O o t.2.1 t.2.2.1 v) (ho : o < 164) (hline : ∀ (o' : Nat) (q : TO), o' < o → O[o']? = some q → aI M (m + 27) o' = q.2.2.1) : ∃ M', ex 215 7 [pR (some m), pI (nI to), pI t.2.1, pI t.2.2.1, pJ v] M = some (none, M') ∧ UV m to M M' ∧ aJ M' (m + 37) to = kqv O t v ∧ aI M' (m + 39) to = nI (kqw E W t v).length ∧ (kqw E W t v).length ≤ 16 ∧ (∀ (i : Nat) (w : Int64), (kqw E W t v)[i]? = some w → aJ M' (m + 38) (16 * to + i) = w) := by
  have hE4 := mE.2.1
  have hW440 := mW.2.1
  -- value and count are written
  have base : ∀ (b : Int64), ∃ M1, M1 = wI (wJ M (m + 37) to b) (m + 39) to 0 ∧ UV m to M M1 ∧ aJ M1 (m + 37) to = b ∧ aI M1 (m + 39) to = 0 ∧ MB m (wJ M (m + 37) to b) := fun b => ⟨_, rfl, (UV.rf.w37 (Nat.le_refl _)).w39 (Nat.le_refl _), by rw [aJ_wI, aJ_wJ, up1_at, up1_at], by rw [aI_wI, up1_at, up1_at], mB.wJ⟩
  by_cases h11 : t.2.1 = 11
  · have n8 : ¬ t.2.1 = 8 := by rw [h11]; decide
    have n9 : ¬ t.2.1 = 9 := by rw [h11]; decide
    have n10 : ¬ t.2.1 = 10 := by rw [h11]; decide
    have ew : kqw E W t v = [] := by unfold kqw; rw [if_neg n8, if_neg n9, if_neg n10]
    rw [ew]
    have e85 : ∀ (M1 : Mem), rn PP 215 85 [some (pR (some m)), some (pI (nI to)), some (pI t.2.1), some (pI t.2.2.1), some (pJ v), none, some (pI 0)] [] M1 = some (none, M1) := fun M1 => by
      rw [tX12_writeValue_85]
      exact it_t n9 (it_t n10 rfl)
    rcases hv.2.2.2.2 h11 with hm | ⟨o', q', g, fq, y1, y2, y3, -⟩
    · obtain ⟨M1, hM1, u1, b1, b2, mB1⟩ := base v
      refine ⟨M1, ?_, u1, ?_, b2, by decide, fun i w h => nomatch h⟩
      · rw [tX12_writeValue]
        refine rd_i rfl mB.k (it_f (not_not_intro h11) (it_t ?_ (ix_m (n := to) mB.a37 rfl (by omega) (by omega) (bd_i (rd_i rfl mB1.k (ix_m (n := to) mB1.a39 rfl (by omega) (by omega) (bd_i (it_t n8 ?_))))))))
        · rw [hm]; decide
        · rw [← hM1]; exact e85 M1
      · rw [b1]
        unfold kqv
        rw [if_pos h11, if_pos hm]; exact hm
    · obtain ⟨M1, hM1, u1, b1, b2, mB1⟩ := base (q'.2.2.1.toInt64)
      refine ⟨M1, ?_, u1, ?_, b2, by decide, fun i w h => nomatch h⟩
      · rw [tX12_writeValue]
        refine rd_i rfl mB.k (it_f (not_not_intro h11) (it_f ?_ (rd_i rfl mB.k (ix_m (n := o') mB.a27 (by rw [y3, lN_i]) (by omega) (by omega) (ix_m (n := to) mB.a37 rfl (by omega) (by omega) ?_)))))
        · rw [y3]
          exact fun z => lN_nn (by omega) (cmp_lt0.mp z)
        · rw [hline o' q' y1 y2]
          refine bd_i (rd_i rfl mB1.k (ix_m (n := to) mB1.a39 rfl (by omega) (by omega) (bd_i (it_t n8 ?_))))
          rw [← hM1]; exact e85 M1
      · rw [b1]
        unfold kqv
        rw [if_pos h11, if_neg (by rw [y3]; exact lN_ne (by omega)), y3, lN_back (by omega), getD_at y2]
  have ev : kqv O t v = v := by unfold kqv; rw [if_neg h11]
  rw [ev]
  obtain ⟨M1, hM1, u1, b1, b2, mB1⟩ := base v
  have run : ∀ {rr : Option Rt}, (if ¬ t.2.1 = 8 then rn PP 215 85 [some (pR (some m)), some (pI (nI to)), some (pI t.2.1), some (pI t.2.2.1), some (pJ v), none, some (pI 0)] [] M1 else if lg_cmp v (0 : Int64) < 0 then rn PP 215 85 [some (pR (some m)), some (pI (nI to)), some (pI t.2.1), some (pI t.2.2.1), some (pJ v), none, some (pI 0)] [] M1 else rd (some m) 12 M1 fun a9 => rd (some m) 12 M1 fun a10 => ix 21 21 (gR M1 770 a10) (8 * t.2.2.1 + v.toInt32) M1 fun a11 j12 => ix 21 21 (gR M1 821 a9) (16 * nI to) M1 fun a13 j14 => bd (wJ M1 a13 j14 (aJ M1 a11 j12)) fun M15 => rd (some m) 12 M15 fun a16 => ix 20 20 (gR M15 822 a16) (nI to) M15 fun a17 j18 => bd (wI M15 a17 j18 1) fun M19 => rn PP 215 85 [some (pR (some m)), some (pI (nI to)), some (pI t.2.1), some (pI t.2.2.1), some (pJ v), none, some (pI 0)] [] M19) = rr → ex 215 7 [pR (some m), pI (nI to), pI t.2.1, pI t.2.2.1, pJ v] M = rr := fun {rr} hr => by
    rw [tX12_writeValue]
    refine rd_i rfl mB.k (it_t h11 (ix_m (n := to) mB.a37 rfl (by omega) (by omega) (bd_i (rd_i rfl mB1.k (ix_m (n := to) mB1.a39 rfl (by omega) (by omega) (bd_i ?_))))))
    rw [← hM1]
    exact hr
  clear hM1
  have mBz := mB.uv u1
  have mEz := mE.uv u1
  have mWz := mW.uv u1
  by_cases h8 : t.2.1 = 8
  · have n9 : ¬ t.2.1 = 9 := by rw [h8]; decide
    have n10 : ¬ t.2.1 = 10 := by rw [h8]; decide
    have e85 : ∀ (M1 : Mem), rn PP 215 85 [some (pR (some m)), some (pI (nI to)), some (pI t.2.1), some (pI t.2.2.1), some (pJ v), none, some (pI 0)] [] M1 = some (none, M1) := fun M1 => by
      rw [tX12_writeValue_85]
      exact it_t n9 (it_t n10 rfl)
    rcases hv.2.1 h8 with hm | ⟨e, qe, c, y1, y2, y3, y4⟩
    · have ew : kqw E W t v = [] := by unfold kqw; rw [if_pos h8, if_pos hm]
      rw [ew]
      exact ⟨M1, run (it_f (not_not_intro h8) (it_t (by rw [hm]; decide) (e85 M1))), u1, b1, b2, by decide, fun i w h => nomatch h⟩
    · have he : e < E.length := (List.getElem?_eq_some_iff.mp y2).1
      obtain ⟨z1, z2, z3, -⟩ := mEz.2.2.1 e qe y2
      obtain ⟨cc, hcc⟩ : ∃ q, qe.1[c]? = some q := ⟨_, List.getElem?_eq_getElem y3⟩
      have ew : kqw E W t v = [cc.1] := by
        unfold kqw
        rw [if_pos h8, if_neg (by rw [y4]; exact lN_ne (by omega)), y1, nI_clamp (by omega), getD_at y2, y4, lN_back (by omega), getD_at hcc]
      rw [ew]
      refine ⟨wI (wJ M1 (m + 38) (16 * to) cc.1) (m + 39) to 1, run (it_f (not_not_intro h8) (it_f ?_ (rd_i rfl mBz.k (rd_i rfl mBz.k (ix_m (n := 8 * e + c) mBz.a2 ?_ (by omega) (by omega) (ix_m (n := 16 * to) mBz.a38 ?_ (by omega) (by omega) ?_)))))), (u1.w38 (Nat.le_refl _)).w39 (Nat.le_refl _), ?_, ?_, by show 1 ≤ 16; omega, fun i w h => ?_⟩
      · rw [y4]
        exact fun z => lN_nn (by omega) (cmp_lt0.mp z)
      · rw [y1, y4, lN_i]; exact m8 e c
      · rw [show (16 : Int32) = nI 16 from rfl, nI_mul]
      · rw [(z3 c cc hcc).1]
        exact bd_i (rd_i rfl mBz.k (ix_m (n := to) mBz.wJ.a39 rfl (by omega) (by omega) (bd_i (e85 _))))
      · rw [aJ_wI, aJ_wJ, up1_no (by omega)]; exact b1
      · rw [aI_wI, up1_at, up1_at]; rfl
      · cases i with
        | zero =>
          have h : cc.1 = w := Option.some.inj h
          show aJ (wI (wJ M1 (m + 38) (16 * to) cc.1) (m + 39) to 1) (m + 38) (16 * to) = w
          rw [aJ_wI, aJ_wJ, up1_at, up1_at]
          exact h
        | succ i => exact nomatch h
  by_cases h9 : t.2.1 = 9
  · obtain ⟨e, qe, y1, y2, y3⟩ := hv.2.2.1 h9
    have he : e < E.length := (List.getElem?_eq_some_iff.mp y2).1
    have ew : kqw E W t v = nms qe.1 v 0 := by unfold kqw; rw [if_neg h8, if_pos h9, y1, nI_clamp (by omega), getD_at y2]
    have h8' := (mEz.2.2.1 e qe y2).1
    obtain ⟨M', e1, e2, e3, e4, e5, -⟩ := m_wv85 (v := v) hto y2 qe.1.length 0 0 M1 (by omega) (by omega) mBz mEz b2
    rw [List.drop_zero] at e4 e5
    rw [ew]
    refine ⟨M', run (it_t h8 ?_), u1.tr e2, by rw [e3]; exact b1, by rw [e4, Nat.zero_add], ?_, fun i w hi => ?_⟩
    · rw [h9, y1]; exact e1
    · rw [nms_len]
      have : ∀ n i, cb v n i ≤ n := by
        intro n
        induction n with
        | zero => intro i; exact Nat.le_refl _
        | succ n ih =>
          intro i
          unfold cb
          have := ih (i + 1)
          split <;> omega
      have := this qe.1.length 0
      omega
    · have := e5 i w hi
      rw [Nat.add_zero] at this
      exact this
  by_cases h10 : t.2.1 = 10
  · rcases hv.2.2.2.1 h10 with hm | ⟨r, w, y1, y2, y3⟩
    · have ew : kqw E W t v = [] := by unfold kqw; rw [if_neg h8, if_neg h9, if_pos h10, if_pos hm]
      rw [ew]
      refine ⟨M1, run (it_t h8 ?_), u1, b1, b2, by decide, fun i w h => nomatch h⟩
      rw [tX12_writeValue_85]
      exact it_t h9 (it_f (not_not_intro h10) (it_t (by rw [hm]; decide) rfl))
    · have hr : r < W.length := (List.getElem?_eq_some_iff.mp y1).1
      obtain ⟨z1, z2, z3, z4⟩ := mWz.2.2 r w y1
      have ew : kqw E W t v = w.2 := by unfold kqw; rw [if_neg h8, if_neg h9, if_pos h10, if_neg (by rw [y2]; exact lN_ne (by omega)), y2, lN_back (by omega), getD_at y1]
      rw [ew]
      have u2 : UV m to M (wI M1 (m + 39) to (nI w.2.length)) := u1.w39 (Nat.le_refl _)
      obtain ⟨M', e1, e2, e3, e4, e5, -⟩ := m_wv188 (r := r) (k := w.2.length) hto (by omega) z1 w.2.length 0 (wI M1 (m + 39) to (nI w.2.length)) (by omega) (mB.uv u2) (by rw [aI_wI, up1_at, up1_at])
      refine ⟨M', run (it_t h8 ?_), u2.tr e2, by rw [e4, aJ_wI]; exact b1, by rw [e3, aI_wI, up1_at, up1_at], z1, fun i w' hi => ?_⟩
      · rw [tX12_writeValue_85]
        refine it_t h9 (it_f (not_not_intro h10) (it_f (by rw [y2]; exact fun z => lN_nn (by omega) (cmp_lt0.mp z)) (rd_i rfl mBz.k (rd_i rfl mBz.k (ix_m (n := r) mBz.a23 (by rw [y2, lN_i]) (by omega) (by omega) (ix_m (n := to) mBz.a39 rfl (by omega) (by omega) ?_))))))
        rw [z3, y2]
        exact bd_i e1
      · have hil : i < w.2.length := (List.getElem?_eq_some_iff.mp hi).1
        rw [e5 i (by omega) hil, aJ_wI]
        exact z4 i w' hi
  · have ew : kqw E W t v = [] := by unfold kqw; rw [if_neg h8, if_neg h9, if_neg h10]
    rw [ew]
    refine ⟨M1, run (it_t h8 ?_), u1, b1, b2, by decide, fun i w h => nomatch h⟩
    rw [tX12_writeValue_85]
    exact it_t h9 (it_t h10 rfl)
end OPS
