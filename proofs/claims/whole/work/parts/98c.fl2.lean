/-! THE MODEL'S LEAVES: the search -/
section FL
variable {x m : Nat} {E : List TE} {R : List TR} {F : List TF} {W : List TW} {O : List TO} {T : List TL} {S : TS} {M M0 M' M1 : Mem} {acc : List Int32}
theorem FL.wS {p : Nat} {v : Int32} (h : FL m M0 M acc) : FL m M0 (wI M (m + 18) p v) acc := by
  obtain ⟨⟨mB, cu, uf⟩, ⟨w1, w2, w3⟩, h3, h7, hg, hj⟩ := h
  exact ⟨⟨mB.wI, cu.wI (by omega), uf.wI (by omega)⟩, ⟨by rw [gI_wI]; exact w1, by rw [aI_wI, up1_no (by omega)]; exact w2, by rw [aI_wI, up1_no (by omega)]; exact w3⟩, by rw [gI_wI]; exact h3, fun i c hc => by rw [aI_wI, up1_no (by omega)]; exact h7 i c hc, hg, by rw [gJ_wI]; exact hj⟩
/-- the members of a family go onto the stack, the last first -/
theorem fl_push {g : Nat} {q : TF} (hq : F[g]? = some q) (mF : MF m M0 F) : ∀ (j h : Nat) (M : Mem), h + j ≤ 40 → j ≤ q.1.length → FL m M0 M acc →
    ∃ M', rn PP 172 52 [some (pR (some m)), none, some (pI (nI h)), some (pI (nI (10 + g))), some (pI (nI j - 1))] [] M = rn PP 172 19 [some (pR (some m)), none, some (pI (nI (h + j))), none, none] [] M' ∧ FL m M0 M' acc ∧ (∀ i, i < h → aI M' (m + 18) i = aI M (m + 18) i) ∧ ∀ i, i < j → aI M' (m + 18) (h + i) = q.1.getD (j - 1 - i) 0 := by
  have hg : g < F.length := (List.getElem?_eq_some_iff.mp hq).1
  have hF3 := mF.2.1
  obtain ⟨z1, z2, z3⟩ := mF.2.2.1 g q hq
  intro j
  induction j with
  | zero =>
    intro h M _ _ hf
    refine ⟨M, ?_, hf, fun _ _ => rfl, fun i hi => absurd hi (Nat.not_lt_zero _)⟩
    rw [tX12_findLeaves_52]
    exact it_t (by decide) rfl
  | succ j ih =>
    intro h M hh hj hf
    obtain ⟨⟨mB, -, -⟩, ⟨-, -, w3⟩, -⟩ := id hf
    obtain ⟨c, hc, -⟩ := drop_get (l := q.1) (i := j) (by omega)
    obtain ⟨M2, e2, f2, p2, s2⟩ := ih (h + 1) (wI M (m + 18) h c) (by omega) (by omega) hf.wS
    have b18 : aI (wI M (m + 18) h c) (m + 18) = up1 (aI M (m + 18)) h c := by rw [aI_wI, up1_at]
    refine ⟨M2, ?_, f2, fun i hi => ?_, fun i hi => ?_⟩
    · conv => lhs; rw [tX12_findLeaves_52, nI_pred]
      refine it_f (nI_pos (by omega)) (rd_i rfl mB.k (rd_i rfl mB.k (ix_m (n := 4 * g + j) mB.a16 (by rw [nI_10, m4]) (by omega) (by omega) (ix_m mB.a18 rfl (by omega) (by omega) (bd_i ?_)))))
      rw [w3, z3 j c hc, nI_1, nIm1', show h + (j + 1) = h + 1 + j by omega]
      exact e2
    · rw [p2 i (by omega), b18, up1_no (by omega)]
    · by_cases e : i = 0
      · subst e
        rw [show h + 0 = h from rfl, p2 h (by omega), b18, up1_at, show j + 1 - 1 - 0 = j by omega, List.getD_eq_getElem?_getD, hc]
        rfl
      · have := s2 (i - 1) (by omega)
        rw [show h + 1 + (i - 1) = h + i by omega, show j - 1 - (i - 1) = j + 1 - 1 - i by omega] at this
        exact this
/-- one from the stack -/
def FLI (m : Nat) (M0 : Mem) (F : List TF) (b : Nat) : Prop := ∀ (c : Int32), mbOK b c → ∀ (h : Nat) (M : Mem) (acc : List Int32), h + 1 + 3 * b ≤ 10 → FL m M0 M acc → aI M (m + 18) h = c →
    ∃ M', rn PP 172 19 [some (pR (some m)), none, some (pI (nI (h + 1))), none, none] [] M = rn PP 172 19 [some (pR (some m)), none, some (pI (nI h)), none, none] [] M' ∧ FL m M0 M' (stepL2 (lvT F b) acc c) ∧ ∀ i, i < h → aI M' (m + 18) i = aI M (m + 18) i
theorem fl_list {g h : Nat} (hI : FLI m M0 F g) : ∀ (l : List Int32) (M : Mem) (acc : List Int32), (∀ c ∈ l, mbOK g c) → h + l.length + 3 * g ≤ 10 → FL m M0 M acc → (∀ i, i < l.length → aI M (m + 18) (h + i) = l.getD (l.length - 1 - i) 0) →
    ∃ M', rn PP 172 19 [some (pR (some m)), none, some (pI (nI (h + l.length))), none, none] [] M = rn PP 172 19 [some (pR (some m)), none, some (pI (nI h)), none, none] [] M' ∧ FL m M0 M' (l.foldl (stepL2 (lvT F g)) acc) ∧ ∀ i, i < h → aI M' (m + 18) i = aI M (m + 18) i := by
  intro l
  induction l with
  | nil => intro M acc _ _ hf _; exact ⟨M, rfl, hf, fun _ _ => rfl⟩
  | cons c l ih =>
    intro M acc hm hh hf hs
    simp only [List.length_cons] at hh hs ⊢
    have h0 := hs l.length (by omega)
    rw [show l.length + 1 - 1 - l.length = 0 by omega] at h0
    obtain ⟨M1, e1, f1, p1⟩ := hI c (hm c List.mem_cons_self) (h + l.length) M acc (by omega) hf h0
    obtain ⟨M2, e2, f2, p2⟩ := ih M1 _ (fun d hd => hm d (List.mem_cons_of_mem _ hd)) (by omega) f1 (fun i hi => by
      rw [p1 (h + i) (by omega), hs i (by omega), show l.length + 1 - 1 - i = (l.length - 1 - i) + 1 by omega]
      rfl)
    exact ⟨M2, e1.trans e2, f2, fun i hi => (p2 i hi).trans (p1 i (by omega))⟩
theorem fl_item (mF : MF m M0 F) (hF : ∀ (i : Nat) (c : Int32), c ∈ (F.getD i ([], [])).1 → mbOK i c) : ∀ b, b ≤ F.length → FLI m M0 F b := by
  intro b
  induction b using Nat.strongRecOn with
  | ind b ih =>
    intro hb c hc h M acc hh hf hs
    have hF3 := mF.2.1
    rcases hc with ⟨r, z1, z2⟩ | ⟨g, z0, z1, z2⟩
    · rw [z2] at hs ⊢
      obtain ⟨M1, e1, f1, p1⟩ := fl_rec hf (by omega) z1 hs
      exact ⟨M1, e1, by rw [step_lt z1]; exact f1, fun i _ => by rw [p1]⟩
    · have hq : F[g]? = some F[g] := List.getElem?_eq_getElem (by omega)
      generalize F[g]'(by omega) = q at hq
      obtain ⟨y1, y2, y3⟩ := mF.2.2.1 g q hq
      have hgd : (F.getD g ([], [])) = q := by rw [List.getD_eq_getElem?_getD, hq]; rfl
      obtain ⟨⟨mB, -, -⟩, ⟨-, w2, -⟩, -⟩ := id hf
      obtain ⟨M1, e1, f1, p1, s1⟩ := fl_push (acc := acc) hq mF q.1.length h M (by omega) (Nat.le_refl _) hf
      obtain ⟨M2, e2, f2, p2⟩ := fl_list (h := h) (ih g z0 (by omega)) q.1 M1 acc (fun d hd => hF g d (by rw [hgd]; exact hd)) (by omega) f1 s1
      refine ⟨M2, ?_, ?_, fun i hi => (p2 i hi).trans (p1 i hi)⟩
      · conv => lhs; rw [tX12_findLeaves_19]
        refine it_f (fun z => ?_) (rd_i rfl mB.k (ix_m mB.a18 (nI_dec h) (by omega) (by omega) ?_))
        · rw [I32_le, nI_toInt (by omega)] at z
          have : (0 : Int32).toInt = 0 := rfl
          omega
        · rw [hs, z2, nI_dec]
          refine it_f (nI_n10 z1) (rd_i rfl mB.k (ix_m mB.a15 (nI_10 g) (by omega) (by omega) ?_))
          rw [w2, y2]
          exact e1.trans e2
      · rw [z2, step_ge z1, lvT_at _ _ _ z0]
        have := lv_fold F g acc
        rw [hgd] at this
        unfold lvF at this
        rw [hgd] at this
        rw [hgd, this]
        exact f2
theorem m_findLeaves {f : Nat} (mB : MB m M) (mF : MF m M F) (hf : f < F.length) (hF : ∀ (i : Nat) (c : Int32), c ∈ (F.getD i ([], [])).1 → mbOK i c) : ∃ M', ex 172 5 [pR (some m), pI (nI f)] M = some (none, M') ∧ FL m M M' (lvF F f) := by
  have hF3 := mF.2.1
  have e10 : (10 : Int32) + nI f = nI (10 + f) := by rw [show (10 : Int32) = nI 10 from rfl, nI_add]
  have uf : UF m M (sI M 788 m 0) := UF.rf.sI (Or.inr rfl)
  have f0 : FL m M (sI M 788 m 0) [] := ⟨⟨⟨by rw [kd_sI]; exact mB.1, fun q hq => by rw [gR_sI, kd_sI, ln_sI]; exact mB.2 q hq⟩, CU.rf.bI (by omega), uf⟩, ⟨by rw [gI_sI, up2_ne (by decide)], by rw [aI_sI], by rw [aI_sI]⟩, by rw [gI_sI, up2_at]; rfl, fun i c hc => by simp at hc, gdL.nil, by rw [gJ_sI]⟩
  have s1 : ex 172 5 [pR (some m), pI (nI f)] M = rn PP 172 19 [some (pR (some m)), none, some (pI (nI (0 + 1))), none, none] [] (wI (sI M 788 m 0) (m + 18) 0 (nI (10 + f))) := by
    rw [tX12_findLeaves]
    refine rd_i rfl mB.k (bd_i (rd_i rfl f0.1.1.k (ix_m (n := 0) f0.1.1.a18 rfl (by omega) (by omega) ?_)))
    rw [e10]
    rfl
  have f1 : FL m M (wI (sI M 788 m 0) (m + 18) 0 (nI (10 + f))) [] := f0.wS
  have b18 : aI (wI (sI M 788 m 0) (m + 18) 0 (nI (10 + f))) (m + 18) 0 = nI (10 + f) := by rw [aI_wI, up1_at, up1_at]
  generalize wI (sI M 788 m 0) (m + 18) 0 (nI (10 + f)) = M1 at s1 f1 b18
  obtain ⟨M2, e2, f2, -⟩ := fl_item mF hF (f + 1) (by omega) _ (Or.inr ⟨f, by omega, by omega, rfl⟩) 0 M1 [] (by omega) f1 b18
  refine ⟨M2, ?_, ?_⟩
  · rw [s1, e2, tX12_findLeaves_19]
    exact it_t (by decide) rfl
  · rw [step_ge (by omega), lvT_at _ _ _ (by omega)] at f2
    have := lv_fold F f []
    unfold lvF at this ⊢
    rw [this] at f2
    exact f2
end FL
