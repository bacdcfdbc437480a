/-! CALLS on families: permit -/
section OPF
variable {x : Nat} {E E' : List TE} {R R' : List TR} {F F' : List TF} {W W' : List TW} {O O' : List TO} {T T' : List TL} {S S' : TS} {jW jO jW' jO' n : Nat} {M M' M1 : Mem}
/-- the class's call, once the member's number stands -/
noncomputable def pT (r0 r3 : Option Nat) (c : Int32) (M : Mem) : Option Rt :=
  rd r3 4 M fun a9 =>
  clI (ex 50 3 [pR (some a9), pI c] M) fun r10 M8 =>
  if r10 = 0 then
    rd r0 11 M8 fun a11 =>
    if gI M8 711 a11 ≤ 0 then
      rd r3 4 M8 fun a12 =>
      if gI M8 257 a12 < 4 then
        rd r3 4 M8 fun a13 =>
        rd r3 4 M8 fun a14 =>
        rd r3 4 M8 fun a15 =>
        bd (sI M8 257 a15 (gI M8 257 a14 + 1)) fun M16 =>
        ix 20 20 (gR M8 256 a13) (gI M8 257 a14) M16 fun a17 j18 =>
        bd (wI M16 a17 j18 c) fun M19 =>
        rd r0 11 M19 fun a21 =>
        clV (ex 115 5 [pR (some a21)] M19) fun M20 =>
        rd r3 4 M20 fun a22 =>
        some (some (pI (gI M20 257 a22)), M20)
      else
        some (some (pI (-3)), M8)
    else
      some (some (pI (-2)), M8)
  else
    some (some (pI (-1)), M8)
/-- one member more -/
theorem c_permit {k a : Nat} {as : List Nat} {q : TF} {c : Int32} (hB : XB x M) (hv : PIv x M) (hL : LI M) (hX : XFa x M as F) (ha : as[k]? = some a) (hq : F[k]? = some q) (hF3 : F.length ≤ 3) (h4 : q.1.length < 4) (hmb : ∀ (i : Nat) (r : TF), F[i]? = some r → ∀ d ∈ r.1, mbOK i d) (hc : mbOK k c) (hn : ¬ c ∈ q.1) (ho : gI M 711 x ≤ 0) :
    ∃ (M' : Mem) (G : List TF), pT (some x) (some a) c M = some (some (pI (nI (q.1.length + 1))), M') ∧ XF x M' G ∧ G.length = F.length ∧ (∀ (i : Nat) (r : TF), G[i]? = some r → r.1 = ((F.set k (q.1 ++ [c], q.2)).getD i ([], [])).1 ∧ r.2 = lvF (F.set k (q.1 ++ [c], q.2)) i) ∧ Fr x (fun k => k = 257 ∨ k = 259) No (fun d => x + 57 < d) No 0 M M' := by
  obtain ⟨hxa, hcf⟩ := hX.2.2.2 k a q ha hq
  obtain ⟨h1, ⟨h2, h3, h4', h5, h6, h7⟩, ⟨g2, g3, g4, g5, g6, g7⟩⟩ := id hcf
  have hk : k < F.length := (List.getElem?_eq_some_iff.mp hq).1
  have hm := c_hasMember hcf c
  rw [if_pos ((fndI_mem q.1 0 (by omega)).mpr hn)] at hm
  have f1 : Fr x (fun k => k = 257) No (fun d => d = a + 1) No 0 M (sI M 257 a (nI q.1.length + 1)) := (Fr.rf hv hL).bI (Or.inl ⟨by omega, rfl⟩)
  have k1 : kd (sI M 257 a (nI q.1.length + 1)) (a + 1) = 20 := by rw [kd_sI]; exact h4'
  have l1 : ln (sI M 257 a (nI q.1.length + 1)) (a + 1) = 4 := by rw [ln_sI]; exact h5
  have f2 : Fr x (fun k => k = 257) No (fun d => d = a + 1) No 0 M (wI (sI M 257 a (nI q.1.length + 1)) (a + 1) q.1.length c) := f1.bAI (Or.inl rfl)
  have o2 : ∀ b, b ≠ a → gI (wI (sI M 257 a (nI q.1.length + 1)) (a + 1) q.1.length c) 257 b = gI M 257 b := fun b hb => by rw [gI_wI, gI_sI, up2_no hb]
  have c2 : cF (wI (sI M 257 a (nI q.1.length + 1)) (a + 1) q.1.length c) (q.1 ++ [c], q.2) a := by
    refine ⟨by rw [kd_wI, kd_sI]; exact h1, ⟨by rw [gR_wI, gR_sI]; exact h2, ?_, by rw [kd_wI]; exact k1, by rw [ln_wI]; exact l1, ?_, fun i d hd => ?_⟩, ⟨by rw [gR_wI, gR_sI]; exact g2, by rw [gI_wI, gI_sI, up2_ne (by decide)]; exact g3, by rw [kd_wI, kd_sI]; exact g4, by rw [ln_wI, ln_sI]; exact g5, g6, fun i d hd => by rw [aI_wI, aI_sI, up1_no (by omega)]; exact g7 i d hd⟩⟩
    · rw [gI_wI, gI_sI, up2_at, List.length_append, nI_1]; rfl
    · rw [List.length_append]; simp only [List.length_cons, List.length_nil]; omega
    · rw [aI_wI, aI_sI, up1_at]
      by_cases e : i < q.1.length
      · rw [List.getElem?_append_left e] at hd
        rw [up1_no (by omega)]
        exact h7 i d hd
      · rw [List.getElem?_append_right (by omega)] at hd
        have : i - q.1.length < 1 := (List.getElem?_eq_some_iff.mp hd).1
        have e2 : i = q.1.length := by omega
        subst e2
        rw [Nat.sub_self] at hd
        cases hd
        rw [up1_at]
  have run : ∀ M20 v, ex 115 5 [pR (some x)] (wI (sI M 257 a (nI q.1.length + 1)) (a + 1) q.1.length c) = some (none, M20) → kd M20 a = 4 → gI M20 257 a = v → pT (some x) (some a) c M = some (some (pI v), M20) := by
    intro M20 v e1 e2 e3
    unfold pT
    refine rd_i rfl h1 (clI_i hm (it_t rfl (rd_i rfl hB.k (it_t ho (rd_i rfl h1 (it_t ?_ (rd_i rfl h1 (rd_i rfl h1 (rd_i rfl h1 ?_)))))))))
    · rw [h3]
      exact nI_lt (b := 4) h4 (by decide)
    · rw [h3]
      refine bd_i (ix_i h2 (Or.inl k1) rfl (by omega) (by omega) (bd_i (rd_i rfl (by rw [kd_wI, kd_sI]; exact hB.k) (clV_i e1 (rd_i rfl e2 ?_)))))
      rw [e3]
  generalize wI (sI M 257 a (nI q.1.length + 1)) (a + 1) q.1.length c = M2 at f2 o2 c2 run
  have B2 : XB x M2 := hB.fr f2 (by decide) (fun d hd q => by omega)
  have X2 : XFa x M2 as (F.set k (q.1 ++ [c], q.2)) := by
    obtain ⟨x1, x2, x3, x4⟩ := hX
    refine ⟨f2.ls id _ x1, x2, by rw [List.length_set]; exact x3, fun i b r hb hr => ?_⟩
    rw [List.getElem?_set] at hr
    by_cases e : k = i
    · subst e
      rw [if_pos rfl, if_pos hk] at hr
      cases hr
      rw [ha] at hb
      cases hb
      exact ⟨hxa, c2⟩
    · rw [if_neg e] at hr
      obtain ⟨y1, y2⟩ := x4 i b r hb hr
      have hba : b ≠ a := fun z => e (x2 k i a ha (by rw [← z]; exact hb))
      refine ⟨y1, ?_⟩
      obtain ⟨w1, ⟨w2, w3, w4, w5, w6, w7⟩, ⟨v2, v3, v4, v5, v6, v7⟩⟩ := y2
      have hk := lt_of_kd hv w1 (by omega)
      have hk1 := lt_of_kd hv w4 (by omega)
      have hk2 := lt_of_kd hv v4 (by omega)
      have n1 : ¬ b + 2 = a + 1 := fun e => by
        have : b + 1 = a := by omega
        rw [this] at w4
        omega
      exact ⟨by rw [f2.fk hk]; exact w1, ⟨by rw [f2.fR (by omega) hk (by decide)]; exact w2, by rw [o2 b hba]; exact w3, by rw [f2.fk hk1]; exact w4, by rw [f2.fl hk1]; exact w5, w6, fun i c hc => by rw [f2.eI hk1 (by omega)]; exact w7 i c hc⟩, ⟨by rw [f2.fR (by omega) hk (by decide)]; exact v2, by rw [f2.fI (by omega) hk (by decide)]; exact v3, by rw [f2.fk hk2]; exact v4, by rw [f2.fl hk2]; exact v5, v6, fun i c hc => by rw [f2.eI hk2 n1]; exact v7 i c hc⟩⟩
  have hgd : ∀ (i : Nat) (r : TF), (F.set k (q.1 ++ [c], q.2))[i]? = some r → (F.set k (q.1 ++ [c], q.2)).getD i ([], []) = r := fun i r hr => by rw [List.getD_eq_getElem?_getD, hr]; rfl
  have hgo : ∀ (i : Nat), (F.set k (q.1 ++ [c], q.2))[i]? = none → (F.set k (q.1 ++ [c], q.2)).getD i ([], []) = ([], []) := fun i hr => by rw [List.getD_eq_getElem?_getD, hr]; rfl
  have hall : ∀ (i : Nat) (r : TF), (F.set k (q.1 ++ [c], q.2))[i]? = some r → r.1.length ≤ 4 ∧ ∀ d ∈ r.1, mbOK i d := fun i r hr => by
    refine ⟨?_, ?_⟩
    · have hi : i < as.length := by rw [X2.2.2.1]; exact (List.getElem?_eq_some_iff.mp hr).1
      exact (X2.2.2.2 i as[i] r (List.getElem?_eq_getElem hi) hr).2.2.1.2.2.2.2.1
    · rw [List.getElem?_set] at hr
      by_cases e : k = i
      · subst e
        rw [if_pos rfl, if_pos hk] at hr
        cases hr
        intro d hd
        rw [List.mem_append, List.mem_singleton] at hd
        rcases hd with hd | rfl
        · exact hmb k q hq d hd
        · exact hc
      · rw [if_neg e] at hr
        exact hmb i r hr
  obtain ⟨M3, G, e3, X3, l3, p3, f3⟩ := c_gather (x := x) (F := F.set k (q.1 ++ [c], q.2)) (as := as) (by rw [List.length_set]; exact hF3) (fun i => by
    cases hr : (F.set k (q.1 ++ [c], q.2))[i]? with
    | none => rw [hgo i hr]; simp
    | some r => rw [hgd i r hr]; exact (hall i r hr).1) (fun i d hd => by
    cases hr : (F.set k (q.1 ++ [c], q.2))[i]? with
    | none => rw [hgo i hr] at hd; simp at hd
    | some r => rw [hgd i r hr] at hd; exact (hall i r hr).2 d hd) (F.set k (q.1 ++ [c], q.2)).length 0 M2 _ (by omega) B2 f2.v f2.li X2 rfl (fun i r hr => ⟨by rw [hgd i r hr], fun z => absurd z (Nat.not_lt_zero _)⟩)
  have ha2 := lt_of_kd f2.v c2.1 (by omega)
  rw [List.length_set] at l3
  refine ⟨M3, G, run M3 _ (by rw [tX11_gatherLeaves]; exact e3) (by rw [f3.fk ha2]; exact c2.1) ?_, X3.xf, l3, p3, ((f2.mo (K' := fun k => k = 257 ∨ k = 259) (AI' := fun d => x + 57 < d) (Nat.le_refl _) (fun _ => Or.inl) (fun _ => id) (fun d q => by omega) (fun _ => id)).tr (f3.mo (Nat.le_refl _) (fun _ => Or.inr) (fun _ => id) (fun _ => id) (fun _ => id)))⟩
  rw [f3.fI (by omega) ha2 (by decide), c2.2.1.2.1, List.length_append]
  rfl
-- the model
theorem m_permit_in {m k : Nat} {q : TF} {c : Int32} (mB : MB m M) (mF : MF m M F) (hq : F[k]? = some q) : ∀ (n i : Nat), n + i = q.1.length → rn PP 171 55 [some (pR (some m)), some (pI (nI k)), none, none, some (pI c), some (pI (nI i))] [] M = if c ∈ q.1.drop i then some (some (pI (-1)), M) else rn PP 171 55 [some (pR (some m)), some (pI (nI k)), none, none, some (pI c), some (pI (nI q.1.length))] [] M := by
  have hk : k < F.length := (List.getElem?_eq_some_iff.mp hq).1
  have h3 := mF.2.1
  obtain ⟨z1, z2, z3⟩ := mF.2.2.1 k q hq
  intro n
  induction n with
  | zero =>
    intro i hi
    rw [List.drop_of_length_le (by omega), if_neg (by simp), show i = q.1.length by omega]
  | succ n ih =>
    intro i hi
    obtain ⟨r, hr, hd⟩ := drop_get (l := q.1) (i := i) (by omega)
    conv => lhs; rw [tX12_permit_55]
    refine rd_i rfl mB.k (ix_m mB.a15 rfl (by omega) (by omega) (it_f (by rw [z2]; exact nI_ge (by omega) (by omega)) (rd_i rfl mB.k (ix_m mB.a16 (m4 k i) (by omega) (by omega) ?_))))
    rw [z3 i r hr, hd]
    by_cases e : r = c
    · refine it_f (not_not_intro e) ?_
      rw [if_pos (by rw [e]; exact List.mem_cons_self)]
    · refine it_t e ?_
      rw [nI_1, ih (i + 1) (by omega)]
      by_cases e2 : c ∈ q.1.drop (i + 1)
      · rw [if_pos e2, if_pos (List.mem_cons_of_mem _ e2)]
      · rw [if_neg e2, if_neg (fun z => by rw [List.mem_cons] at z; exact z.elim (fun y => e y.symm) e2)]
theorem m_permit {m k : Nat} {q : TF} {c : Int32} (hM : MI m E R F W [] T S M) (hq : F[k]? = some q) (h4 : q.1.length < 4) (hn : ¬ c ∈ q.1) : ∃ M2, rn PP 171 55 [some (pR (some m)), some (pI (nI k)), none, none, some (pI c), some (pI 0)] [] M = some (some (pI (nI (q.1.length + 1))), M2) ∧ CU m M M2 ∧ MI m E R (F.set k (q.1 ++ [c], q.2)) W [] T S M2 := by
  obtain ⟨mB, -, -, mF, -, mO, -, -⟩ := id hM
  have hk : k < F.length := (List.getElem?_eq_some_iff.mp hq).1
  have hF3 := mF.2.1
  obtain ⟨z1, z2, z3⟩ := mF.2.2.1 k q hq
  have d1 := (mb0 mO).mpr rfl
  have s0 := m_permit_in (c := c) mB mF hq q.1.length 0 (by omega)
  rw [List.drop_zero, if_neg hn] at s0
  have cu : CU m M (wI (wI M (m + 16) (4 * k + q.1.length) c) (m + 15) k (nI q.1.length + 1)) := (CU.rf.wI (by omega)).wI (by omega)
  have uf : UF m M (wI (wI M (m + 16) (4 * k + q.1.length) c) (m + 15) k (nI q.1.length + 1)) := (UF.rf.wI (by omega)).wI (by omega)
  have mB1 : MB m (wI M (m + 16) (4 * k + q.1.length) c) := mB.wI
  have r1 : aI (wI M (m + 16) (4 * k + q.1.length) c) (m + 15) = aI M (m + 15) := by rw [aI_wI, up1_no (by omega)]
  have mB2 : MB m (wI (wI M (m + 16) (4 * k + q.1.length) c) (m + 15) k (nI q.1.length + 1)) := mB1.wI
  have b15 : aI (wI (wI M (m + 16) (4 * k + q.1.length) c) (m + 15) k (nI q.1.length + 1)) (m + 15) = up1 (aI M (m + 15)) k (nI q.1.length + 1) := by rw [aI_wI, up1_at, r1]
  have b16 : aI (wI (wI M (m + 16) (4 * k + q.1.length) c) (m + 15) k (nI q.1.length + 1)) (m + 16) = up1 (aI M (m + 16)) (4 * k + q.1.length) c := by rw [aI_wI, up1_no (by omega), aI_wI, up1_at]
  have g0 : gI (wI (wI M (m + 16) (4 * k + q.1.length) c) (m + 15) k (nI q.1.length + 1)) 784 m = gI M 784 m := by rw [gI_wI, gI_wI]
  have run : rn PP 171 55 [some (pR (some m)), some (pI (nI k)), none, none, some (pI c), some (pI 0)] [] M = some (some (pI (nI (q.1.length + 1))), wI (wI M (m + 16) (4 * k + q.1.length) c) (m + 15) k (nI q.1.length + 1)) := by
    refine s0.trans ?_
    rw [tX12_permit_55]
    refine rd_i rfl mB.k (ix_m mB.a15 rfl (by omega) (by omega) (it_t (by rw [z2]; exact nI_le (by omega) (by omega)) (rd_i rfl mB.k (it_t d1 (rd_i rfl mB.k (ix_m mB.a15 rfl (by omega) (by omega) (it_t ?_ (rd_i rfl mB.k (rd_i rfl mB.k (ix_m mB.a15 rfl (by omega) (by omega) (ix_m (n := 4 * k + q.1.length) mB.a16 ?_ (by omega) (by omega) (bd_i (rd_i rfl mB1.k (ix_m mB1.a15 rfl (by omega) (by omega) (ix_m mB1.a15 rfl (by omega) (by omega) ?_)))))))))))))))
    · rw [z2]
      exact fun q => absurd (nI_inj (b := 4) (by omega) (by omega) q) (by omega)
    · rw [z2, m4]
    · rw [r1, z2]
      refine bd_i (rd_i rfl mB2.k (ix_m mB2.a15 rfl (by omega) (by omega) ?_))
      rw [b15, up1_at, nI_1]
  generalize wI (wI M (m + 16) (4 * k + q.1.length) c) (m + 15) k (nI q.1.length + 1) = M2 at cu uf mB2 b15 b16 g0 run
  refine ⟨M2, run, cu, hM.uf uf ⟨by rw [g0, List.length_set]; exact mF.1, by rw [List.length_set]; exact hF3, fun f r hr => ?_, fun f hf1 hf2 => ?_⟩⟩
  · have hfl : f < (F.set k (q.1 ++ [c], q.2)).length := (List.getElem?_eq_some_iff.mp hr).1
    rw [List.length_set] at hfl
    rw [List.getElem?_set] at hr
    rw [b15, b16]
    by_cases e : k = f
    · subst e
      rw [if_pos rfl, if_pos hk] at hr
      cases hr
      refine ⟨by rw [List.length_append]; simp only [List.length_cons, List.length_nil]; omega, by rw [up1_at, nI_1, List.length_append]; rfl, fun i d hd => ?_⟩
      by_cases e : i < q.1.length
      · rw [List.getElem?_append_left e] at hd
        rw [up1_no (by omega)]
        exact z3 i d hd
      · rw [List.getElem?_append_right (by omega)] at hd
        have : i - q.1.length < 1 := (List.getElem?_eq_some_iff.mp hd).1
        have e2 : i = q.1.length := by omega
        subst e2
        rw [Nat.sub_self] at hd
        cases hd
        rw [up1_at]
    · rw [if_neg e] at hr
      obtain ⟨y1, y2, y3⟩ := mF.2.2.1 f r hr
      refine ⟨y1, by rw [up1_no (fun z => e z.symm)]; exact y2, fun i d hd => ?_⟩
      have hi : i < r.1.length := (List.getElem?_eq_some_iff.mp hd).1
      rw [up1_no (by omega)]
      exact y3 i d hd
  · rw [List.length_set] at hf1
    rw [b15, up1_no (by omega)]
    exact mF.2.2.2 f hf1 hf2
end OPF
