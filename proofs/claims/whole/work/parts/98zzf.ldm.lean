/-! LOADING: the model's steps -/
section OPS
variable {x : Nat} {E E' : List TE} {R R' : List TR} {F F' : List TF} {W W' : List TW} {O O' : List TO} {T T' : List TL} {S S' : TS} {jW jO jW' jO' n : Nat} {M M' M1 : Mem}
/-- what has come so far, for each that waits -/
def comI (f : Nat → Int32) (g : Nat → Int64) : List (Nat × List Int64) → Prop
  | [] => True
  | e :: ss => f ss.length = nI e.2.length ∧ (∀ (i : Nat) (v : Int64), e.2[i]? = some v → g (6 * ss.length + i) = v) ∧ comI f g ss
def MK (m : Nat) (M : Mem) (ss : List (Nat × List Int64)) : Prop := stkI (aI M (m + 42)) (ss.map Prod.fst) ∧ comI (aI M (m + 43)) (aJ M (m + 45)) ss
theorem comI.cg {f f' : Nat → Int32} {g g' : Nat → Int64} : ∀ {ss : List (Nat × List Int64)}, comI f g ss → (∀ e ∈ ss, e.2.length ≤ 6) → (∀ j, j < ss.length → f' j = f j) → (∀ j, j < 6 * ss.length → g' j = g j) → comI f' g' ss := by
  intro ss
  induction ss with
  | nil => intro _ _ _ _; exact trivial
  | cons e ss ih =>
    intro h h6 hf hg
    rw [List.length_cons] at hf hg
    have e6 := h6 e List.mem_cons_self
    refine ⟨by rw [hf _ (by omega)]; exact h.1, fun i v hi => ?_, ih h.2.2 (fun e he => h6 e (List.mem_cons_of_mem _ he)) (fun j hj => hf j (by omega)) (fun j hj => hg j (by omega))⟩
    have hil : i < e.2.length := (List.getElem?_eq_some_iff.mp hi).1
    rw [hg _ (by omega)]
    exact h.2.1 i v hi
theorem MK.ath {m : Nat} {ss : List (Nat × List Int64)} (h : MK m M ss) (a : AtH m M M') : MK m M' ss := by
  unfold MK
  rw [a.1, a.2.1, a.2.2.1]
  exact h
theorem stkI.map_len {f : Nat → Int32} {ss : List (Nat × List Int64)} {l : Nat} {vs : List Int64} (h : stkI f (((l, vs) :: ss).map Prod.fst)) : f ss.length = nI l := by
  have := h.1
  rw [List.length_map] at this
  exact this
/-- the part that is next: where the model goes on -/
theorem m_ld_part {m l fi : Nat} {vs : List Int64} {ss : List (Nat × List Int64)} {q : TL} {rc : TR} {s : TP} (hM : MI m E R F W O T S M) (hk : MK m M ((l, vs) :: ss)) (hq : T[l]? = some q) (hrc : R[q.1]? = some rc) (hs : rc.1[vs.length]? = some s) (hss : ss.length ≤ 63) : (∀ {rr : Option Rt}, (∀ (pk : Nat) (t : TQ), fndQ q.2.2.1 s.1 0 = some pk → q.2.2.1[pk]? = some t → s.2.1 = 11 → t.2.1 = 11 → aJ M (m + 37) (6 * l + pk) < 0 ∨ ∃ l', l' < 64 ∧ aJ M (m + 37) (6 * l + pk) = lN l' ∧ aI M (m + 40) l' ≠ -1) → (rd (some m) 12 M fun a26 => clI (ex 223 4 [pR (some a26), pI (nI (6 * q.1 + vs.length)), pI (kpI l (fndQ q.2.2.1 s.1 0))] M) fun r27 M25 => if r27 = 0 then rd (some m) 12 M25 fun a28 => rd (some m) 12 M25 fun a29 => ix 21 21 (gR M25 829 a28) (nI (6 * ss.length + vs.length)) M25 fun a30 j31 => bd (wJ M25 a30 j31 (gJ M25 830 a29)) fun M32 => rd (some m) 12 M32 fun a33 => ix 20 30 (gR M32 826 a33) (nI (ss.length + 1) - 1) M32 fun a34 j35 => ix 20 20 (gR M32 826 a33) (nI (ss.length + 1) - 1) M32 fun a36 j37 => bd (wI M32 a36 j37 (aI M32 a34 j35 + 1)) fun M38 => rn PP 222 53 [some (pR (some m)), some (pI (nI fi)), some (pI (nI (ss.length + 1))), some (pI 0), none, none, none, none, none, none] [] M38 else rd (some m) 12 M25 fun a40 => clI (ex 198 6 [pR (some a40), pI r27, pI (nI q.1), pI (nI vs.length), pI (-1), pI (nI l)] M25) fun r41 M39 => rd (some m) 12 M39 fun a42 => rd (some m) 12 M39 fun a43 => ix 21 21 (gR M39 829 a42) (nI (6 * ss.length + vs.length)) M39 fun a44 j45 => bd (wJ M39 a44 j45 (gJ M39 830 a43)) fun M46 => rd (some m) 12 M46 fun a47 => ix 20 30 (gR M46 826 a47) (nI (ss.length + 1) - 1) M46 fun a48 j49 => ix 20 20 (gR M46 826 a47) (nI (ss.length + 1) - 1) M46 fun a50 j51 => bd (wI M46 a50 j51 (aI M46 a48 j49 + 1)) fun M52 => rn PP 222 53 [some (pR (some m)), some (pI (nI fi)), some (pI (nI (ss.length + 1))), some (pI r41), none, none, none, none, none, none] [] M52) = rr → rn PP 222 53 [some (pR (some m)), some (pI (nI fi)), some (pI (nI (ss.length + 1))), some (pI 0), none, none, none, none, none, none] [] M = rr) ∧ (∀ (pk : Nat) (t : TQ) (l' : Nat), fndQ q.2.2.1 s.1 0 = some pk → q.2.2.1[pk]? = some t → s.2.1 = 11 → t.2.1 = 11 → l' < 64 → aJ M (m + 37) (6 * l + pk) = lN l' → aI M (m + 40) l' = -1 → rn PP 222 53 [some (pR (some m)), some (pI (nI fi)), some (pI (nI (ss.length + 1))), some (pI 0), none, none, none, none, none, none] [] M = rn PP 222 53 [some (pR (some m)), some (pI (nI fi)), some (pI (nI (ss.length + 2))), some (pI 0), none, none, none, none, none, none] [] (wI (wI M (m + 42) (ss.length + 1) (nI l')) (m + 43) (ss.length + 1) 0)) := by
  obtain ⟨mB, -, mR, -, -, -, mL, -⟩ := id hM
  have hl : l < T.length := (List.getElem?_eq_some_iff.mp hq).1
  have hr : q.1 < R.length := (List.getElem?_eq_some_iff.mp hrc).1
  have hp : vs.length < rc.1.length := (List.getElem?_eq_some_iff.mp hs).1
  have hr6 := mR.2.1
  have h64 := mL.2.1
  obtain ⟨⟨z1, z2, z3⟩, -⟩ := mR.2.2.1 q.1 rc hrc
  obtain ⟨w1, w2, w3, w4⟩ := z3 _ s hs
  obtain ⟨y1, y2, y3, y4, y5, y6⟩ := mL.2.2 l q hq
  have hst := stkI.map_len hk.1
  have h43 : aI M (m + 43) ss.length = nI vs.length := hk.2.1
  have e218 := m_keptPart mB mL hq s.1
  have npos : ¬ nI (ss.length + 1) ≤ 0 := fun z => by
    rw [I32_le, nI_toInt (by omega)] at z
    have : (0 : Int32).toInt = 0 := rfl
    omega
  have i6 : (6 : Int32) * nI q.1 + nI vs.length = nI (6 * q.1 + vs.length) := m6 _ _
  have ip : nI (ss.length + 1) - 1 = nI ss.length := by rw [nI_pred]
  have ic : (6 : Int32) * (nI (ss.length + 1) - 1) + nI vs.length = nI (6 * ss.length + vs.length) := by rw [ip]; exact m6 _ _
  have hne : ¬ nI vs.length = nI rc.1.length := fun z => by
    have := nI_inj (by omega) (by omega) z
    omega
  refine ⟨fun {rr} hna hr' => ?_, fun pk t l' hf ht s11 t11 hl' hv hld => ?_⟩
  · rw [tX12_load_53]
    refine it_f npos (it_f (not_not_intro rfl) (rd_i rfl mB.k (ix_m (n := ss.length) mB.a42 ip (by omega) (by omega) ?_)))
    rw [hst]
    refine rd_i rfl mB.k (ix_m (n := l) mB.a31 rfl (by omega) (by omega) (rd_i rfl mB.k (ix_m (n := ss.length) mB.a43 ip (by omega) (by omega) ?_)))
    rw [y2, h43]
    refine rd_i rfl mB.k (ix_m (n := q.1) mB.a5 rfl (by omega) (by omega) ?_)
    rw [z2, ic, i6]
    refine it_t hne (rd_i rfl mB.k (ix_m (n := 6 * q.1 + vs.length) mB.a6 rfl (by omega) (by omega) (rd_i rfl mB.k ?_)))
    rw [w1]
    refine clI_i e218 ?_
    cases hk' : fndQ q.2.2.1 s.1 0 with
    | none =>
      rw [hk'] at hr'
      exact it_t rfl (it_t rfl hr')
    | some pk =>
      rw [hk'] at hr'
      obtain ⟨t, -, ht, -⟩ := fndQ_some _ _ _ hk'
      rw [Nat.sub_zero] at ht
      have hpk : pk < q.2.2.1.length := (List.getElem?_eq_some_iff.mp ht).1
      obtain ⟨p1, p2, p3, p4, -⟩ := y6 pk t ht
      refine it_f (nI_m1 (by omega)) (rd_i rfl mB.k (ix_m (n := 6 * q.1 + vs.length) mB.a7 rfl (by omega) (by omega) ?_))
      rw [w2]
      by_cases s11 : s.2.1 = 11
      · refine it_f (not_not_intro s11) (rd_i rfl mB.k (ix_m (n := 6 * l + pk) mB.a35 rfl (by omega) (by omega) ?_))
        rw [p2]
        by_cases t11 : t.2.1 = 11
        · refine it_f (not_not_intro t11) (rd_i rfl mB.k (ix_m (n := 6 * l + pk) mB.a37 rfl (by omega) (by omega) ?_))
          rcases hna pk t hk' ht s11 t11 with z | ⟨l', hl', z1', z2'⟩
          · exact it_t (cmp_lt0.mpr z) (it_t rfl hr')
          · refine it_f (by rw [z1']; exact fun w => lN_nn (by omega) (cmp_lt0.mp w)) (rd_i rfl mB.k (rd_i rfl mB.k (ix_m (n := 6 * l + pk) mB.a37 rfl (by omega) (by omega) (ix_m (n := l') mB.a40 (by rw [z1', lN_i]) (by omega) (by omega) (it_t z2' (it_t rfl hr'))))))
        · exact it_t t11 (it_t rfl hr')
      · exact it_t s11 (it_t rfl hr')
  · have hpk : pk < q.2.2.1.length := (List.getElem?_eq_some_iff.mp ht).1
    obtain ⟨p1, p2, p3, p4, -⟩ := y6 pk t ht
    conv => lhs; rw [tX12_load_53]
    refine it_f npos (it_f (not_not_intro rfl) (rd_i rfl mB.k (ix_m (n := ss.length) mB.a42 ip (by omega) (by omega) ?_)))
    rw [hst]
    refine rd_i rfl mB.k (ix_m (n := l) mB.a31 rfl (by omega) (by omega) (rd_i rfl mB.k (ix_m (n := ss.length) mB.a43 ip (by omega) (by omega) ?_)))
    rw [y2, h43]
    refine rd_i rfl mB.k (ix_m (n := q.1) mB.a5 rfl (by omega) (by omega) ?_)
    rw [z2, ic, i6]
    refine it_t hne (rd_i rfl mB.k (ix_m (n := 6 * q.1 + vs.length) mB.a6 rfl (by omega) (by omega) (rd_i rfl mB.k ?_)))
    rw [w1]
    refine clI_i e218 ?_
    rw [hf]
    refine it_f (nI_m1 (by omega)) (rd_i rfl mB.k (ix_m (n := 6 * q.1 + vs.length) mB.a7 rfl (by omega) (by omega) (it_f (not_not_intro (w2.trans s11)) (rd_i rfl mB.k (ix_m (n := 6 * l + pk) mB.a35 rfl (by omega) (by omega) (it_f (not_not_intro (p2.trans t11)) (rd_i rfl mB.k (ix_m (n := 6 * l + pk) mB.a37 rfl (by omega) (by omega) (it_f (by rw [hv]; exact fun w => lN_nn (by omega) (cmp_lt0.mp w)) (rd_i rfl mB.k (rd_i rfl mB.k (ix_m (n := 6 * l + pk) mB.a37 rfl (by omega) (by omega) (ix_m (n := l') mB.a40 (by rw [hv, lN_i]) (by omega) (by omega) (it_f (not_not_intro hld) (it_f (by decide) (rd_i rfl mB.k (rd_i rfl mB.k (ix_m (n := 6 * l + pk) mB.a37 rfl (by omega) (by omega) (ix_m (n := ss.length + 1) mB.a42 rfl (by omega) (by omega) (bd_i (rd_i rfl mB.k (ix_m (n := ss.length + 1) mB.wI.a43 rfl (by omega) (by omega) (bd_i ?_)))))))))))))))))))))))
    rw [hv, lN_i, nI_1]
theorem m_ld_fill {m l fi : Nat} {vs : List Int64} {ss : List (Nat × List Int64)} {q : TL} {rc : TR} {s : TP} {c : Int32} {v : Int64} {Mc : Mem} (hM : MI m E R F W O T S M) (hk : MK m M ((l, vs) :: ss)) (h6 : ∀ e ∈ ss, e.2.length ≤ 6) (hq : T[l]? = some q) (hrc : R[q.1]? = some rc) (hs : rc.1[vs.length]? = some s) (hss : ss.length ≤ 63) (hna : ∀ (pk : Nat) (t : TQ), fndQ q.2.2.1 s.1 0 = some pk → q.2.2.1[pk]? = some t → s.2.1 = 11 → t.2.1 = 11 → aJ M (m + 37) (6 * l + pk) < 0 ∨ ∃ l', l' < 64 ∧ aJ M (m + 37) (6 * l + pk) = lN l' ∧ aI M (m + 40) l' ≠ -1) (e223 : ex 223 4 [pR (some m), pI (nI (6 * q.1 + vs.length)), pI (kpI l (fndQ q.2.2.1 s.1 0))] M = some (some (pI c), Mc)) (cu : CU m M Mc) (hMc : MI m E R F W' O T' S' Mc) (at' : AtH m M Mc) (hc : c = 0 ∨ c = 6 ∨ c = 8) (hv : c = 0 → gJ Mc 830 m = v) : (c = 0 → ∃ Me, rn PP 222 53 [some (pR (some m)), some (pI (nI fi)), some (pI (nI (ss.length + 1))), some (pI 0), none, none, none, none, none, none] [] M = rn PP 222 53 [some (pR (some m)), some (pI (nI fi)), some (pI (nI (ss.length + 1))), some (pI 0), none, none, none, none, none, none] [] Me ∧ CU m M Me ∧ MI m E R F W' O T' S' Me ∧ MK m Me ((l, vs ++ [v]) :: ss)) ∧ (¬ c = 0 → ∃ Me, rn PP 222 53 [some (pR (some m)), some (pI (nI fi)), some (pI (nI (ss.length + 1))), some (pI 0), none, none, none, none, none, none] [] M = some (some (pI (-10 - c)), Me) ∧ CU m M Me ∧ MI m E R F W' O T' (cau S' c (nI q.1) (nI vs.length) (-1) (nI l)) Me) := by
  obtain ⟨top, -⟩ := m_ld_part (fi := fi) hM hk hq hrc hs hss
  have hp : vs.length < rc.1.length := (List.getElem?_eq_some_iff.mp hs).1
  have hrc6 := (hM.2.2.1.2.2.1 q.1 rc hrc).1.1
  have mBc := hMc.1
  have hkc := hk.ath at'
  have ip : nI (ss.length + 1) - 1 = nI ss.length := by rw [nI_pred]
  refine ⟨fun c0 => ?_, fun c0 => ?_⟩
  · have hM1 : MI m E R F W' O T' S' (wJ Mc (m + 45) (6 * ss.length + vs.length) v) := hMc.uz (UZ.rf.wJ (by decide))
    have hM2 : MI m E R F W' O T' S' (wI (wJ Mc (m + 45) (6 * ss.length + vs.length) v) (m + 43) ss.length (nI (vs.length + 1))) := hM1.uz (UZ.rf.wI (by decide))
    have h43 : aI (wJ Mc (m + 45) (6 * ss.length + vs.length) v) (m + 43) ss.length = nI vs.length := by rw [aI_wJ]; exact hkc.2.1
    refine ⟨_, top hna (rd_i rfl hM.1.k (clI_i e223 (it_t c0 (rd_i rfl mBc.k (rd_i rfl mBc.k (ix_m (n := 6 * ss.length + vs.length) mBc.a45 rfl (by omega) (by omega) ?_)))))), cu.tr ((CU.rf.wJ (by omega)).wI (by omega)), hM2, ?_, ?_, fun i u hi => ?_, ?_⟩
    · rw [hv c0]
      refine bd_i (rd_i rfl hM1.1.k (ix_m (n := ss.length) hM1.1.a43 ip (by omega) (by omega) (ix_m (n := ss.length) hM1.1.a43 ip (by omega) (by omega) ?_)))
      rw [h43, nI_1]
      exact bd_i rfl
    · rw [aI_wI, up1_no (by omega), aI_wJ]
      exact hkc.1
    · rw [aI_wI, up1_at, up1_at, List.length_append]
      rfl
    · rw [aJ_wI, aJ_wJ, up1_at]
      have hi : (vs ++ [v])[i]? = some u := hi
      by_cases z : i < vs.length
      · rw [List.getElem?_append_left z] at hi
        rw [up1_no (by omega)]
        exact hkc.2.2.1 i u hi
      · rw [List.getElem?_append_right (by omega)] at hi
        have : i - vs.length < 1 := (List.getElem?_eq_some_iff.mp hi).1
        rw [show i - vs.length = 0 by omega] at hi
        have hi : v = u := Option.some.inj hi
        rw [show i = vs.length by omega, up1_at]
        exact hi
    · refine comI.cg hkc.2.2.2 h6 (fun j hj => ?_) (fun j hj => ?_)
      · rw [aI_wI, up1_at, up1_no (by omega), aI_wJ]
      · rw [aJ_wI, aJ_wJ, up1_at, up1_no (by omega)]
  · obtain ⟨Mf, e198, cuf, hMf, atf⟩ := m_caused (c := c) (r := nI q.1) (p := nI vs.length) (k := -1) (l := nI l) hMc
    have hM1 : MI m E R F W' O T' (cau S' c (nI q.1) (nI vs.length) (-1) (nI l)) (wJ Mf (m + 45) (6 * ss.length + vs.length) (gJ Mf 830 m)) := hMf.uz (UZ.rf.wJ (by decide))
    have hM2 : MI m E R F W' O T' (cau S' c (nI q.1) (nI vs.length) (-1) (nI l)) (wI (wJ Mf (m + 45) (6 * ss.length + vs.length) (gJ Mf 830 m)) (m + 43) ss.length (aI (wJ Mf (m + 45) (6 * ss.length + vs.length) (gJ Mf 830 m)) (m + 43) ss.length + 1)) := hM1.uz (UZ.rf.wI (by decide))
    have nz : ¬ (-10 - c : Int32) = 0 := by
      rcases hc with z | z | z <;> (rw [z]; decide)
    refine ⟨_, top hna (rd_i rfl hM.1.k (clI_i e223 (it_f c0 (rd_i rfl mBc.k (clI_i e198 (rd_i rfl hMf.1.k (rd_i rfl hMf.1.k (ix_m (n := 6 * ss.length + vs.length) hMf.1.a45 rfl (by omega) (by omega) (bd_i (rd_i rfl hM1.1.k (ix_m (n := ss.length) hM1.1.a43 ip (by omega) (by omega) (ix_m (n := ss.length) hM1.1.a43 ip (by omega) (by omega) (bd_i ?_))))))))))))), (cu.tr cuf).tr ((CU.rf.wJ (by omega)).wI (by omega)), hM2⟩
    rw [tX12_load_53]
    refine it_f (fun z => ?_) (it_t nz (it_f nz rfl))
    rw [I32_le, nI_toInt (by omega)] at z
    have : (0 : Int32).toInt = 0 := rfl
    omega
theorem m_ld_push {m l fi pk l' : Nat} {vs : List Int64} {ss : List (Nat × List Int64)} {q q' : TL} {rc : TR} {s : TP} {t : TQ} (hM : MI m E R F W O T S M) (hk : MK m M ((l, vs) :: ss)) (h6 : ∀ e ∈ (l, vs) :: ss, e.2.length ≤ 6) (hq : T[l]? = some q) (hrc : R[q.1]? = some rc) (hs : rc.1[vs.length]? = some s) (hss : ss.length ≤ 62) (hf : fndQ q.2.2.1 s.1 0 = some pk) (ht : q.2.2.1[pk]? = some t) (s11 : s.2.1 = 11) (t11 : t.2.1 = 11) (hv : t.2.2.2.1 = lN l') (hq' : T[l']? = some q') (hld : q'.2.2.2 = -1) : ∃ Me, rn PP 222 53 [some (pR (some m)), some (pI (nI fi)), some (pI (nI (ss.length + 1))), some (pI 0), none, none, none, none, none, none] [] M = rn PP 222 53 [some (pR (some m)), some (pI (nI fi)), some (pI (nI (ss.length + 2))), some (pI 0), none, none, none, none, none, none] [] Me ∧ CU m M Me ∧ MI m E R F W O T S Me ∧ MK m Me ((l', []) :: (l, vs) :: ss) := by
  obtain ⟨-, psh⟩ := m_ld_part (fi := fi) hM hk hq hrc hs (by omega)
  have mL := hM.2.2.2.2.2.2.1
  have hl' : l' < T.length := (List.getElem?_eq_some_iff.mp hq').1
  have h64 := mL.2.1
  have pkt := (mL.2.2 l q hq).2.2.2.2.2 pk t ht
  have e37 : aJ M (m + 37) (6 * l + pk) = lN l' := (pkt.2.2.2.1 (Or.inr t11)).trans hv
  have e40 : aI M (m + 40) l' = -1 := (mL.2.2 l' q' hq').2.2.2.2.1.trans hld
  have hM2 : MI m E R F W O T S (wI (wI M (m + 42) (ss.length + 1) (nI l')) (m + 43) (ss.length + 1) 0) := (hM.uz (UZ.rf.wI (by decide))).uz (UZ.rf.wI (by decide))
  refine ⟨_, psh pk t l' hf ht s11 t11 (by omega) e37 e40, (CU.rf.wI (by omega)).wI (by omega), hM2, ?_, ?_, (fun i v hi => nomatch hi), ?_⟩
  · rw [aI_wI, up1_no (by omega), aI_wI, up1_at]
    refine ⟨?_, stkI.up hk.1 ?_⟩
    · rw [List.length_map, List.length_cons, up1_at]
    · rw [List.length_map, List.length_cons]; exact Nat.le_refl _
  · rw [aI_wI, up1_at, List.length_cons, up1_at]
    rfl
  · refine comI.cg hk.2 h6 (fun j hj => ?_) (fun j hj => ?_)
    · rw [List.length_cons] at hj
      rw [aI_wI, up1_at, up1_no (by omega), aI_wI, up1_no (by omega)]
    · rw [aJ_wI, aJ_wI]
theorem m_ld105 {m l r fi d : Nat} {vs : List Int64} (hr : r < 6) (hd : d < 64) (hv6 : vs.length ≤ 6) : ∀ (n i : Nat) (M : Mem), n + i = vs.length → MB m M → aI M (m + 5) r = nI vs.length → (∀ (j : Nat) (v : Int64), vs[j]? = some v → aJ M (m + 45) (6 * d + j) = v) → (∀ (j : Nat) (v : Int64), j < i → vs[j]? = some v → aJ M (m + 29) j = v) → ∃ g, rn PP 222 105 [some (pR (some m)), some (pI (nI fi)), some (pI (nI (d + 1))), none, some (pI (nI l)), some (pI (nI r)), none, some (pI (nI i)), none, none] [] M = rn PP 222 105 [some (pR (some m)), some (pI (nI fi)), some (pI (nI (d + 1))), none, some (pI (nI l)), some (pI (nI r)), none, some (pI (nI vs.length)), none, none] [] (uJ M (m + 29) g) ∧ ∀ (j : Nat) (v : Int64), vs[j]? = some v → g j = v := by
  intro n
  induction n with
  | zero =>
    intro i M hi mB h5 hc hn
    refine ⟨aJ M (m + 29), by rw [uJ_self, show i = vs.length by omega], fun j v hj => hn j v ?_ hj⟩
    have := (List.getElem?_eq_some_iff.mp hj).1
    omega
  | succ n ih =>
    intro i M hi mB h5 hc hn
    obtain ⟨v, hv, -⟩ := drop_get (l := vs) (i := i) (by omega)
    obtain ⟨g, e1, e2⟩ := ih (i + 1) (wJ M (m + 29) i v) (by omega) mB.wJ (by rw [aI_wJ]; exact h5) (fun j u hj => by rw [aJ_wJ, up1_no (by omega)]; exact hc j u hj) (fun j u hj hu => by
      rw [aJ_wJ, up1_at]
      by_cases c : j = i
      · subst c
        rw [hv] at hu
        cases hu
        exact up1_at
      · rw [up1_no c]
        exact hn j u (by omega) hu)
    refine ⟨g, ?_, e2⟩
    have ic : (6 : Int32) * (nI (d + 1) - 1) + nI i = nI (6 * d + i) := by rw [nI_pred]; exact m6 _ _
    conv => lhs; rw [tX12_load_105]
    refine rd_i rfl mB.k (ix_m (n := r) mB.a5 rfl (by omega) (by omega) (it_f (by rw [h5]; exact nI_ge (by omega) (by omega)) (rd_i rfl mB.k (rd_i rfl mB.k (ix_m (n := 6 * d + i) mB.a45 ic (by omega) (by omega) (ix_m (n := i) mB.a29 rfl (by omega) (by omega) ?_))))))
    rw [hc i v hv, nI_1]
    refine bd_i ?_
    rw [e1]
    show rn PP 222 105 _ [] (uJ (uJ M (m + 29) (up1 (aJ M (m + 29)) i v)) (m + 29) g) = _
    rw [uJ_uJ]
end OPS
