/-! KEEPING: what is kept of a part, the class (2) -/
section OPS
variable {x : Nat} {E E' : List TE} {R R' : List TR} {F F' : List TF} {W W' : List TW} {O O' : List TO} {T T' : List TL} {S S' : TS} {jW jO jW' jO' n : Nat} {M M' M1 : Mem}
theorem cnJ_i {α : Type} {r : Option α} {a : Nat} {f : Nat → Mem → Option α} (ka : kd M a = 21) (k : f (mT M) (uJ (nA M 21 (ln M a)) (mT M) (aJ M a)) = r) : cnJ (some a) M f = r := (if_pos ka).trans k
theorem cpJ_k {α : Type} {r : Option α} {a b k : Nat} {f : Mem → Option α} (ka : kd M a = 21) (kb : kd M b = 21) (hk : k < 2147483648) (la : k ≤ ln M a) (lb : k ≤ ln M b) (h : f (uJ M b (va_cpy (aJ M a) (aJ M b) 0 0 k)) = r) : cpJ (some a) 0 (some b) 0 (nI k) M f = r := by
  have e := nI_clamp hk
  have z : (0 : Int32).toNatClampNeg = 0 := by decide
  have h1 : (0 : Int32).toNatClampNeg + (nI k).toNatClampNeg ≤ ln M a := by rw [e, z]; omega
  have h2 : (0 : Int32).toNatClampNeg + (nI k).toNatClampNeg ≤ ln M b := by rw [e, z]; omega
  refine (if_pos ⟨ka, kb, by decide, by decide, nI_pos hk, h1, h2⟩).trans ?_
  rw [e, z]
  exact h
theorem c_copyOf {d k : Nat} (hv : PIv x M) (hL : LI M) (kd' : kd M d = 21) (ld : ln M d = 16) (hk : k ≤ 16) : ∃ M', ex 25 3 [pR (some d), pI (nI k)] M = some (some (pR (some (mT M))), M') ∧ Fr x No No No No 1 M M' ∧ kd M' (mT M) = 21 ∧ ln M' (mT M) = k ∧ (∀ i, i < k → aJ M' (mT M) i = aJ M d i) := by
  have hd := lt_of_kd hv kd' (by omega)
  by_cases h16 : k = 16
  · subst h16
    have fA : Fr x No No No No 1 M (nA M 21 (ln M d)) := (Fr.rf hv hL).bA (by omega) (by omega) (by omega)
    refine ⟨uJ (nA M 21 (ln M d)) (mT M) (aJ M d), ?_, fA.bAJ (Or.inr (Nat.le_refl _)), ?_, ?_, fun i _ => ?_⟩
    · rw [tJ7_copyOf_c38d5]
      refine al_i rfl (by omega) (it_f (not_not_intro (by rw [ld])) (cnJ_i kd' (ck_s rfl ?_ rfl)))
      rw [kd_uJ, kd_nA, up1_at]
    · rw [kd_uJ, kd_nA, up1_at]
    · rw [ln_uJ, ln_nA, up1_at]; exact ld
    · rw [aJ_uJ, up1_at]
  · have fA : Fr x No No No No 1 M (nA M 21 k) := (Fr.rf hv hL).bA (by omega) (by omega) (by omega)
    have kA : kd (nA M 21 k) (mT M) = 21 := by rw [kd_nA, up1_at]
    have lA : ln (nA M 21 k) (mT M) = k := by rw [ln_nA, up1_at]
    have run : ∀ {rr : Option Rt}, (al (some d) (nA M 21 k) fun a3 => clI (ex 8 2 [pI (nI (ln (nA M 21 k) a3)), pI (nI k)] (nA M 21 k)) fun r5 M4 => cpJ (some d) 0 (some (mT M)) 0 r5 M4 fun M6 => some (some (pR (some (mT M))), M6)) = rr → ex 25 3 [pR (some d), pI (nI k)] M = rr := fun {rr} hr => by
      rw [tJ7_copyOf_c38d5]
      refine al_i rfl (by omega) (it_t (fun z => h16 ?_) (gd_i ⟨nI_pos (by omega), by rw [nI_clamp (by omega)]; omega⟩ (bd_i ?_)))
      · rw [ld] at z
        exact nI_inj (by omega) (by omega) z
      · rw [nI_clamp (by omega)]
        exact hr
    generalize nA M 21 k = Ma at fA kA lA run
    have kdM : kd Ma d = 21 := by rw [fA.fk hd]; exact kd'
    have ldM : ln Ma d = 16 := by rw [fA.fl hd]; exact ld
    refine ⟨uJ Ma (mT M) (va_cpy (aJ Ma d) (aJ Ma (mT M)) 0 0 k), run (al_i rfl (by omega) ?_), fA.bAJ (Or.inr (Nat.le_refl _)), by rw [kd_uJ]; exact kA, by rw [ln_uJ]; exact lA, fun i hi => ?_⟩
    · rw [ldM]
      refine clI_i (mathMin Ma (by omega) (by omega)) ?_
      rw [show min 16 k = k by omega]
      exact cpJ_k kdM kA (by omega) (by omega) (by omega) rfl
    · rw [aJ_uJ, up1_at]
      unfold va_cpy
      rw [if_pos (by omega), show 0 + (i - 0) = i by omega, fA.eJ hd id]
theorem XB.no (h : XB x M) : ∃ d, sR M 2 = some d ∧ d < x ∧ kd M d = 31 ∧ ln M d = 0 := h.2.2.2.2.2.1
theorem getD_at {α : Type} {l : List α} {i : Nat} {q d : α} (h : l[i]? = some q) : l.getD i d = q := by
  rw [List.getD_eq_getElem?_getD, h]
  rfl
theorem c_keptPart {t : TP} {k o : Nat} {v : Int64} (hX : XI x E R F W O T S jW jO M) (hp : cP M t k) (hs : srtOK E.length F.length t.2.1 t.2.2.1) (hv : valOK E F W O o t.2.1 t.2.2.1 v) (hE4 : E.length ≤ 4) (hE8 : ∀ (e : Nat) (q : TE), E[e]? = some q → q.1.length ≤ 8) : ∃ M', ex 142 4 [pR (some x), pR (some k), pJ v] M = some (some (pR (some (mT M))), M') ∧ cQ x M' (kq0 E W O t v) (mT M) ∧ Fr x No No No No 2 M M' ∧ mT M < mT M' := by
  obtain ⟨⟨hB, hv0, hL0⟩, hE, -, -, hW, hO, -, -⟩ := id hX
  have hlt := hB.lt
  have hWl := hW.len0
  have hOl := hO.len0
  have hp0 := id hp
  obtain ⟨p1, p2, p3, p4, p5⟩ := hp
  have f0 : Fr x No No No No 1 M (nO M 5 6) := (Fr.rf hv0 hL0).bO (by omega) (by omega)
  have k5 : kd (nO M 5 6) (mT M) = 5 := by rw [kd_nO, up1_at]
  have t2 : mT (nO M 5 6) = mT M + 1 := by rw [mT_nO]
  have eN : nO M 5 6 = nO M 5 6 := rfl
  generalize hM2 : nO M 5 6 = M2 at f0 k5 t2
  have hX2 := hX.fr0 f0
  have hB2 := hX2.1.1
  have q0 := hp0.fr f0 (fun _ _ => id)
  obtain ⟨no, n1, n2, n3, n4⟩ := hB.no
  have n1' : sR M2 2 = some no := by rw [f0.fs]; exact n1
  have hno : ∀ {Mc : Mem}, kd Mc = kd M2 → ln Mc = ln M2 → sR Mc = sR M2 → ((no = mT M + 1 ∧ kd Mc no = 21) ∨ (sR Mc 2 = some no ∧ kd Mc no = 31 ∧ no < x)) ∧ ln Mc no = ([] : List Int64).length ∧ ([] : List Int64).length ≤ 16 ∧ ∀ (i : Nat) (v : Int64), ([] : List Int64)[i]? = some v → aJ Mc no i = v := fun {Mc} h1 h2 h3 => ⟨Or.inr ⟨by rw [h3]; exact n1', by rw [h1, f0.fk (by omega)]; exact n3, n2⟩, by rw [h2, f0.fl (by omega)]; exact n4, by decide, fun i v h => nomatch h⟩
  -- names in a set
  have names : ∀ (e : Nat) (qe : TE) (u : Int64), E[e]? = some qe → t.2.2.1 = nI e → 8 ≤ t.2.1 → t.2.1 < 10 → u.toUInt64.toNat < 2 ^ qe.1.length → kqw E W t v = nms qe.1 u 0 → ∃ M4 M7, ex 145 8 [pR (some x), pI (gI M2 514 k), pJ u] M2 = some (some (pR (some (mT M + 1))), M4) ∧ kd M4 (mT M) = 5 ∧ ex 54 5 [pR (some (mT M)), pR (some k), pJ (0 : Int64), pR (some (mT M + 1))] M4 = some (none, M7) ∧ cQ x M7 (kq0 E W O t v) (mT M) ∧ Fr x No No No No 2 M M7 ∧ mT M < mT M7 := fun e qe u hq hf h8 h10 hu hw => by
    have h8' := hE8 e qe hq
    obtain ⟨M4, e145, f1, y1, y2, y3⟩ := c_namesOf (v := u) hX2 hq h8' hu
    rw [t2] at e145 y1 y2 y3
    have k5' : kd M4 (mT M) = 5 := by rw [f1.fk (by omega)]; exact k5
    have q4 := q0.fr f1 (fun _ _ => id)
    obtain ⟨M7, e54, f2, ⟨z1, z2, z3, z4, z5⟩, w1, w2, w3, w4, w5, w6⟩ := kq_init (d := mT M + 1) (b := 0) (f0.tr f1) (Nat.le_refl _) k5' q4
    refine ⟨M4, M7, ?_, k5', e54, ⟨by rw [z1]; exact k5', w1, w2, w3, fun z => ?_, fun z => ?_, ⟨mT M + 1, w5, Or.inl ⟨rfl, by rw [z1]; exact y1⟩, ?_, ?_, fun i w hi => ?_⟩, w6⟩, f2, ?_⟩
    · rw [q0.2.2.2.1 h8, hf]; exact e145
    · have z : t.2.1 < 8 ∨ t.2.1 = 11 := z
      rw [I32_lt] at h10
      rw [I32_le] at h8
      rw [I32_lt] at z
      have e10 : (10 : Int32).toInt = 10 := rfl
      have e8 : (8 : Int32).toInt = 8 := rfl
      rcases z with z | z
      · omega
      · rw [z] at h10
        exact absurd h10 (by decide)
    · have z : t.2.1 = 10 := z
      rw [z] at h10
      exact absurd h10 (by decide)
    · show ln M7 (mT M + 1) = (kqw E W t v).length
      rw [z2, hw]; exact y2
    · show (kqw E W t v).length ≤ 16
      rw [hw, nms_len]
      have : ∀ n i, cb u n i ≤ n := by
        intro n
        induction n with
        | zero => intro i; exact Nat.le_refl _
        | succ n ih =>
          intro i
          unfold cb
          have := ih (i + 1)
          split <;> omega
      have := this qe.1.length 0
      omega
    · have hi : (kqw E W t v)[i]? = some w := hi
      rw [hw] at hi
      rw [z3]
      exact y3 i w hi
    · have := f1.fT
      rw [z5]
      omega
  rw [tX11_keptPart, hM2]
  by_cases h8 : t.2.1 = 8
  · obtain ⟨e, he, hf⟩ := hs.2.2.1 (Or.inl h8)
    obtain ⟨qe, hqe⟩ : ∃ q, E[e]? = some q := ⟨_, List.getElem?_eq_getElem he⟩
    have g8 : (8 : Int32) ≤ t.2.1 := by rw [h8]; decide
    have g10 : t.2.1 < 10 := by rw [h8]; decide
    rcases hv.2.1 h8 with hm | ⟨e', q', c, y1, y2, y3, y4⟩
    · obtain ⟨M4, M7, e145, k5', e54, r1, r2, r3⟩ := names e qe 0 hqe hf g8 g10 (Nat.two_pow_pos _) (by
        unfold kqw
        rw [if_pos h8, if_pos hm]
        have : ∀ (cs : List TC) (i : Nat), i + cs.length ≤ 8 → nms cs 0 i = [] := by
          intro cs
          induction cs with
          | nil => intro i _; rfl
          | cons c cs ih =>
            intro i hi
            rw [List.length_cons] at hi
            have b0 : ∀ i, i < 8 → bt 0 i = false := by decide +kernel
            rw [nms, if_neg (by rw [b0 i (by omega)]; decide)]
            exact ih (i + 1) (by omega)
        exact (this qe.1 0 (by have := hE8 e qe hqe; omega)).symm)
      exact ⟨M7, rd_i rfl p1 (it_t (p3.trans h8) (bd_i (rd_i rfl q0.1 (it_f (not_not_intro (cmp_eq0.mpr hm)) (rd_i rfl hB2.k (clR_i e145 (rd_i rfl k5' (clV_i e54 rfl)))))))), r1, r2, r3⟩
    · have he' : e' < E.length := (List.getElem?_eq_some_iff.mp y2).1
      have : e = e' := nI_inj (by omega) (by omega) (hf.symm.trans y1)
      subst this
      rw [hqe] at y2
      cases y2
      have h8' := hE8 e qe hqe
      obtain ⟨cc, hcc⟩ : ∃ q, qe.1[c]? = some q := ⟨_, List.getElem?_eq_getElem y3⟩
      obtain ⟨M4, M7, e145, k5', e54, r1, r2, r3⟩ := names e qe (oneB c) hqe hf g8 g10 (by rw [oneB_lt c (by omega)]; exact Nat.pow_lt_pow_right (by omega) y3) (by
        unfold kqw
        rw [if_pos h8, if_neg (by rw [y4]; exact lN_ne (by omega)), hf, nI_clamp (by omega), getD_at hqe, y4, lN_back (by omega), getD_at hcc]
        exact ((nms_one (by omega) qe.1 0 (by omega)).2 cc (by omega) (by rw [Nat.sub_zero]; exact hcc)).symm)
      refine ⟨M7, rd_i rfl p1 (it_t (p3.trans h8) (bd_i (rd_i rfl q0.1 (it_t (fun z => ?_) (rd_i rfl hB2.k (clR_i (v := some (mT M + 1)) (M1 := M4) ?_ (rd_i rfl k5' (clV_i e54 rfl)))))))), r1, r2, r3⟩
      · rw [y4] at z
        exact lN_ne (by omega) (cmp_eq0.mp z)
      · rw [y4]; exact e145
  have n8 : ¬ gI M 513 k = 8 := fun z => h8 (p3.symm.trans z)
  by_cases h9 : t.2.1 = 9
  · obtain ⟨e, qe, y1, y2, y3⟩ := hv.2.2.1 h9
    obtain ⟨M4, M7, e145, k5', e54, r1, r2, r3⟩ := names e qe v y2 y1 (by rw [h9]; decide) (by rw [h9]; decide) y3 (by
      unfold kqw
      have := (List.getElem?_eq_some_iff.mp y2).1
      rw [if_neg h8, if_pos h9, y1, nI_clamp (by omega), getD_at y2])
    exact ⟨M7, rd_i rfl p1 (it_f n8 (it_t (p3.trans h9) (bd_i (rd_i rfl q0.1 (rd_i rfl hB2.k (clR_i e145 (rd_i rfl k5' (clV_i e54 rfl)))))))), r1, r2, r3⟩
  have n9 : ¬ gI M 513 k = 9 := fun z => h9 (p3.symm.trans z)
  by_cases h10 : t.2.1 = 10
  · have g8 : (8 : Int32) ≤ t.2.1 := by rw [h10]; decide
    have n11 : ¬ t.2.1 = 11 := by rw [h10]; decide
    have nlt : ¬ (t.2.1 < 8 ∨ t.2.1 = 11) := by rw [h10]; decide
    have ev : kqv O t v = v := by unfold kqv; rw [if_neg n11]
    rcases hv.2.2.2.1 h10 with hm | ⟨r, w, y1, y2, y3⟩
    · obtain ⟨M7, e54, f2, ⟨z1, z2, z3, z4, z5⟩, w1, w2, w3, w4, w5, w6⟩ := kq_init (d := no) (b := -1) f0 (Nat.le_refl _) k5 q0
      have ew : kqw E W t v = [] := by unfold kqw; rw [if_neg h8, if_neg h9, if_pos h10, if_pos hm]
      obtain ⟨u1, u2, u3, u4⟩ := hno z1 z2 z4
      refine ⟨M7, rd_i rfl p1 (it_f n8 (it_f n9 (it_t (p3.trans h10) (rd_i rfl hB.k (clR_i (c_rowAt_no hB hW (by rw [hm]; exact Or.inl (by decide))) (clR_i (v := some (mT M)) (M1 := M7) ?_ rfl)))))), ⟨by rw [z1]; exact k5, w1, w2, w3, fun z => absurd z nlt, fun _ => ?_, ⟨no, w5, u1, by rw [show (kq0 E W O t v).2.2.2.2.1 = kqw E W t v from rfl, ew]; exact u2, by rw [show (kq0 E W O t v).2.2.2.2.1 = kqw E W t v from rfl, ew]; exact u3, fun i w hi => by rw [show (kq0 E W O t v).2.2.2.2.1 = kqw E W t v from rfl, ew] at hi; exact nomatch hi⟩, w6⟩, f2.mo (by omega) (fun _ => id) (fun _ => id) (fun _ => id) (fun _ => id), by rw [z5]; omega⟩
      · rw [tX11_keptRow, hM2]
        refine it_t rfl (bd_i (rd_i rfl k5 ?_))
        rw [n1']
        exact clV_i e54 rfl
      · refine ⟨?_, fun z => ?_⟩
        · rw [w4]
          show (-1 : Int64) = -1 ↔ kqv O t v < 0
          rw [ev, hm]
          decide
        · have z : ¬ kqv O t v < 0 := z
          rw [ev, hm] at z
          exact absurd (by decide) z
    · have hr : r < W.length := (List.getElem?_eq_some_iff.mp y1).1
      obtain ⟨ka, c110, -, cw⟩ := c_rowAt hB hW y1
      have cw2 := cw.fr f0 (fun _ _ => id) id
      obtain ⟨u1, u2, u3, u4, u5⟩ := id cw2
      obtain ⟨v1, v2, v3, v4⟩ := u5 w rfl
      obtain ⟨M4, e25, f1, s1, s2, s3⟩ := c_copyOf (k := w.2.length) f0.v f0.li u3 u4 v3
      rw [t2] at e25 s1 s2 s3
      have k5' : kd M4 (mT M) = 5 := by rw [f1.fk (by omega)]; exact k5
      have q4 := q0.fr f1 (fun _ _ => id)
      obtain ⟨M7, e54, f2, ⟨z1, z2, z3, z4, z5⟩, w1, w2, w3, w4, w5, w6⟩ := kq_init (d := mT M + 1) (b := 0) (f0.tr f1) (Nat.le_refl _) k5' q4
      have ew : kqw E W t v = w.2 := by unfold kqw; rw [if_neg h8, if_neg h9, if_pos h10, if_neg (by rw [y2]; exact lN_ne (by omega)), y2, lN_back (by omega), getD_at y1]
      refine ⟨M7, rd_i rfl p1 (it_f n8 (it_f n9 (it_t (p3.trans h10) (rd_i rfl hB.k (clR_i (v := some ka) (M1 := M) (by rw [y2]; exact c110) (clR_i (v := some (mT M)) (M1 := M7) ?_ rfl)))))), ⟨by rw [z1]; exact k5', w1, w2, w3, fun z => absurd z nlt, fun _ => ?_, ⟨mT M + 1, w5, Or.inl ⟨rfl, by rw [z1]; exact s1⟩, by rw [show (kq0 E W O t v).2.2.2.2.1 = kqw E W t v from rfl, ew, z2]; exact s2, by rw [show (kq0 E W O t v).2.2.2.2.1 = kqw E W t v from rfl, ew]; exact v3, fun i w' hi => ?_⟩, w6⟩, f2, by have := f1.fT; rw [z5]; omega⟩
      · rw [tX11_keptRow, hM2]
        refine it_f (fun z => nomatch z) (bd_i (rd_i rfl u1 (rd_i rfl u1 ?_)))
        rw [u2, v2]
        exact clR_i e25 (rd_i rfl k5' (clV_i e54 rfl))
      · refine ⟨?_, fun _ => ⟨w5, by rw [z1]; exact s1⟩⟩
        rw [w4]
        show (0 : Int64) = -1 ↔ kqv O t v < 0
        rw [ev, y2]
        exact ⟨fun z => absurd z (by decide), fun z => absurd z (lN_nn (by omega))⟩
      · rw [show (kq0 E W O t v).2.2.2.2.1 = kqw E W t v from rfl, ew] at hi
        rw [z3, s3 i (List.getElem?_eq_some_iff.mp hi).1]
        exact v4 i w' hi
  have n10 : ¬ gI M 513 k = 10 := fun z => h10 (p3.symm.trans z)
  have ew : kqw E W t v = [] := by unfold kqw; rw [if_neg h8, if_neg h9, if_neg h10]
  by_cases h11 : t.2.1 = 11
  · have n10' : ¬ t.2.1 = 10 := h10
    have fin : ∀ (b : Int64), b = kqv O t v → ∃ M7, ex 54 5 [pR (some (mT M)), pR (some k), pJ b, pR (some no)] M2 = some (none, M7) ∧ cQ x M7 (kq0 E W O t v) (mT M) ∧ Fr x No No No No 2 M M7 ∧ mT M < mT M7 := fun b hb => by
      obtain ⟨M7, e54, f2, ⟨z1, z2, z3, z4, z5⟩, w1, w2, w3, w4, w5, w6⟩ := kq_init (d := no) (b := b) f0 (Nat.le_refl _) k5 q0
      obtain ⟨u1, u2, u3, u4⟩ := hno z1 z2 z4
      exact ⟨M7, e54, ⟨by rw [z1]; exact k5, w1, w2, w3, fun _ => w4.trans hb, fun z => absurd z n10', ⟨no, w5, u1, by rw [show (kq0 E W O t v).2.2.2.2.1 = kqw E W t v from rfl, ew]; exact u2, by rw [show (kq0 E W O t v).2.2.2.2.1 = kqw E W t v from rfl, ew]; exact u3, fun i w hi => by rw [show (kq0 E W O t v).2.2.2.2.1 = kqw E W t v from rfl, ew] at hi; exact nomatch hi⟩, w6⟩, f2.mo (by omega) (fun _ => id) (fun _ => id) (fun _ => id) (fun _ => id), by rw [z5]; omega⟩
    rcases hv.2.2.2.2 h11 with hm | ⟨o', q', g, fq, y1, y2, y3, -⟩
    · obtain ⟨M7, e54, r1, r2, r3⟩ := fin (Int32.toInt64 (-1)) (by unfold kqv; rw [if_pos h11, if_pos hm]; decide)
      refine ⟨M7, rd_i rfl p1 (it_f n8 (it_f n9 (it_f n10 (it_t (p3.trans h11) (bd_i (rd_i rfl hB2.k (clR_i (c_objAt_no hB2 hX2.2.2.2.2.2.1 (by rw [hm]; exact Or.inl (by decide))) (clI_i (v := -1) (M1 := M2) (by rw [tX11_lineOf]; exact it_t rfl rfl) (rd_i rfl k5 ?_))))))))), r1, r2, r3⟩
      rw [n1']
      exact clV_i e54 rfl
    · have ho' : o' < O.length := (List.getElem?_eq_some_iff.mp y2).1
      obtain ⟨ka, c111, -, co⟩ := c_objAt hB2 hX2.2.2.2.2.2.1 y2
      obtain ⟨M7, e54, r1, r2, r3⟩ := fin (q'.2.2.1.toInt64) (by unfold kqv; rw [if_pos h11, if_neg (by rw [y3]; exact lN_ne (by omega)), y3, lN_back (by omega), getD_at y2])
      refine ⟨M7, rd_i rfl p1 (it_f n8 (it_f n9 (it_f n10 (it_t (p3.trans h11) (bd_i (rd_i rfl hB2.k (clR_i (v := some ka) (M1 := M2) (by rw [y3]; exact c111) (clI_i (v := q'.2.2.1) (M1 := M2) (by rw [tX11_lineOf]; exact it_f (fun z => nomatch z) (rd_i rfl co.1 (by rw [(co.2.2.2.2 q' rfl).2.1]))) (rd_i rfl k5 ?_))))))))), r1, r2, r3⟩
      rw [n1']
      exact clV_i e54 rfl
  · have n11 : ¬ gI M 513 k = 11 := fun z => h11 (p3.symm.trans z)
    have ev : kqv O t v = v := by unfold kqv; rw [if_neg h11]
    obtain ⟨M7, e54, f2, ⟨z1, z2, z3, z4, z5⟩, w1, w2, w3, w4, w5, w6⟩ := kq_init (d := no) (b := v) f0 (Nat.le_refl _) k5 q0
    obtain ⟨u1, u2, u3, u4⟩ := hno z1 z2 z4
    refine ⟨M7, rd_i rfl p1 (it_f n8 (it_f n9 (it_f n10 (it_f n11 (bd_i (rd_i rfl k5 ?_)))))), ⟨by rw [z1]; exact k5, w1, w2, w3, fun _ => w4.trans ev.symm, fun z => absurd z h10, ⟨no, w5, u1, by rw [show (kq0 E W O t v).2.2.2.2.1 = kqw E W t v from rfl, ew]; exact u2, by rw [show (kq0 E W O t v).2.2.2.2.1 = kqw E W t v from rfl, ew]; exact u3, fun i w hi => by rw [show (kq0 E W O t v).2.2.2.2.1 = kqw E W t v from rfl, ew] at hi; exact nomatch hi⟩, w6⟩, f2.mo (by omega) (fun _ => id) (fun _ => id) (fun _ => id) (fun _ => id), by rw [z5]; omega⟩
    rw [n1']
    exact clV_i e54 rfl
end OPS
