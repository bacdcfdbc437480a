/-! SOUNDNESS: the step -/
set_option maxHeartbeats 16000000 in
theorem snd_step {l : Launch} {D : va_G} {cA : Nat → ClassId} {base n : Nat} (hn : Snd l D cA base PP n) : Snd l D cA base PP (n + 1) := by
  intro y pc ls st M vz Me hr p e R s m args below meth c M0 Q H locs lsA hC hMo hv hSF hP hS hl
  have hr : one PP (rnF PP n) y pc ls st M = some (vz, Me) := hr
  unfold one at hr
  cases he : PP y pc with
  | none => rw [he] at hr; cases hr
  | some E =>
  rw [he] at hr
  obtain ⟨hd, hok⟩ := PP_ok y pc E he
  obtain ⟨ins, len, ns, cst, ms⟩ := E
  have hl : lv_has lsA (mL y) (lvO 0 (clrs ms ls)) := has_clrs ms hl
  dsimp only at hr hd hok
  generalize clrs ms ls = lz at hr hl
  obtain ⟨hx, hb, hml, hown, hts, hini, hsz, hbm, hRf, hRl, hRc, hRs, hK, hNW, hend⟩ := id hC
  have hsize : lsA.size = mL y := hl.1
  have go : ∀ pc' ls' st' M', rnF PP n y pc' ls' st' M' = some (vz, Me) → Kp2 base M M' → ∀ H1 locs1 lsB, va_P D cls13 (wsOf base cA M') H1 → va_S (Ab base) s.heap H1 locs1 → lv_has lsB (mL y) (lvO 0 ls') → W p l e R s m args below meth c H1 locs1 (mT M' - mT M0) (mS M' - mS M0) Q (F0 m pc' lsB (st'.map pv)) := by
    intro pc' ls' st' M' h1 h2 H1 locs1 lsB h3 h4 h5
    exact hn y pc' ls' st' M' vz Me h1 p e R s m args below meth c M0 Q H1 locs1 lsB hC (hMo.tr h2.1) (h2.2 hv) (hSF.mo h2.1) h3 h4 h5
  have top : ∀ pc' ls' st' M', rnF PP n y pc' ls' st' M' = some (vz, Me) → mT M' ≤ mT Me ∧ mS M' ≤ mS Me := by
    intro pc' ls' st' M' h
    have := rnF_kp base PP n (y, pc', ls', st', M') (vz, Me) h
    exact ⟨this.1.1, this.1.2.1⟩
  have same : ∀ pc' ls' st', rnF PP n y pc' ls' st' M = some (vz, Me) → ∀ lsB, lv_has lsB (mL y) (lvO 0 ls') → W p l e R s m args below meth c H locs (mT M - mT M0) (mS M - mS M0) Q (F0 m pc' lsB (st'.map pv)) :=
    fun pc' ls' st' h lsB h5 => go pc' ls' st' M h (Kp2.rf base M) H locs lsB hP hS h5
  have hT0 : mT M0 ≤ mT M := hMo.1
  have hS0 : mS M0 ≤ mS M := hMo.2.1
  have hcl : s.heap.size + (mT M - mT M0) = mT M := by omega
  have hsb : base ≤ s.heap.size := by omega
  -- a call, once its arguments are known
  have called : ∀ (z : Nat) (as st' : List PV) (v : Option PV) (M1 : Mem), rnF PP n z 0 (ent as (mL z)) [] M = some (v, M1) → rnF PP n y (pc + 3) lz (v.toList ++ st') M1 = some (vz, Me) →
      ((mT M - mT M0) + (mT M1 - mT M) ≤ R.cells ∧ (mS M - mS M0) + (mS M1 - mS M) ≤ R.slots) ∧ (∀ H1 locs1, va_P D cls13 (wsOf base cA M1) H1 → va_S (Ab base) s.heap H1 locs1 → W p l e R s m args below meth c H1 locs1 ((mT M - mT M0) + (mT M1 - mT M)) ((mS M - mS M0) + (mS M1 - mS M)) Q (F0 m (pc + 3) lsA ((v.map pv).toList ++ st'.map pv))) := by
    intro z as st' v M1 h1 h2
    have hk := rnF_kp base PP n (z, 0, ent as (mL z), [], M) (v, M1) h1
    have hk1 : mT M ≤ mT M1 := hk.1.1
    have hk2 : mS M ≤ mS M1 := hk.1.2.1
    obtain ⟨t1, t2⟩ := top _ _ _ _ h2
    refine ⟨⟨by omega, by omega⟩, fun H1 locs1 hP1 hS1 => ?_⟩
    have h := go _ _ _ M1 h2 hk H1 locs1 lsA hP1 hS1 hl
    rw [show mT M1 - mT M0 = (mT M - mT M0) + (mT M1 - mT M) by omega, show mS M1 - mS M0 = (mS M - mS M0) + (mS M1 - mS M) by omega] at h
    rw [show (v.map pv).toList ++ st'.map pv = (v.toList ++ st').map pv by cases v <;> rfl]
    exact h
  have pl : ∀ ins', decode (mB y) pc = .ok (ins', len) → okI y pc ins' len ns cst = true → (match stepL ins' ns cst lz st M with | some q => rnF PP n y (pc + len) q.1 q.2 M | none => none) = some (vz, Me) → W p l e R s m args below meth c H locs (mT M - mT M0) (mS M - mS M0) Q (F0 m pc lsA (st.map pv)) := by
    intro ins' hd' hok' hr'
    split at hr'
    · rename_i q hq
      exact plain hx hb hown hts hSF hNW hS hq hd' hok' hl (fun lsB hB => same _ _ _ hr' lsB hB)
    · cases hr'
  cases ins
  case irem =>
    have hlen : len = 1 := beqN hok
    subst hlen
    simp only [stepK] at hr
    split at hr
    · obtain ⟨hne, hr⟩ := gd_some hr
      exact lv_irem hx hb hd hne (same _ _ _ hr _ hl)
    · cases hr
  case lrem =>
    have hlen : len = 1 := beqN hok
    subst hlen
    simp only [stepK] at hr
    split at hr
    · obtain ⟨hne, hr⟩ := gd_some hr
      exact lv_lrem hx hb hd hne (same _ _ _ hr _ hl)
    · cases hr
  case f2d =>
    have hlen : len = 1 := beqN hok
    subst hlen
    simp only [stepK] at hr
    split at hr
    · obtain ⟨hne, hr⟩ := gd_some hr
      exact lv_f2d hx hb hd hne (same _ _ _ hr _ hl)
    · cases hr
  case ifCond cd off =>
    obtain ⟨hlen, ht⟩ := brT hok
    subst hlen
    simp only [stepK] at hr
    split at hr
    · cases cd <;> first
        | exact lv_if_eq hx hb hd ht (fun h => same _ _ _ ((if_pos h).symm.trans hr) _ hl) (fun h => same _ _ _ ((if_neg h).symm.trans hr) _ hl)
        | exact lv_if_lt hx hb hd ht (fun h => same _ _ _ ((if_pos h).symm.trans hr) _ hl) (fun h => same _ _ _ ((if_neg h).symm.trans hr) _ hl)
        | exact lv_if_ge hx hb hd ht (fun h => same _ _ _ ((if_pos h).symm.trans hr) _ hl) (fun h => same _ _ _ ((if_neg h).symm.trans hr) _ hl)
        | exact lv_if_gt hx hb hd ht (fun h => same _ _ _ ((if_pos h).symm.trans hr) _ hl) (fun h => same _ _ _ ((if_neg h).symm.trans hr) _ hl)
        | exact lv_if_le hx hb hd ht (fun h => same _ _ _ ((if_pos h).symm.trans hr) _ hl) (fun h => same _ _ _ ((if_neg h).symm.trans hr) _ hl)
        | exact lv_if_ne hx hb hd ht (fun h => same _ _ _ ((if_pos h).symm.trans hr) _ hl) (fun h => same _ _ _ ((if_neg (not_not_intro h)).symm.trans hr) _ hl)
    · cases hr
  case if_icmp cd off =>
    obtain ⟨hlen, ht⟩ := brT hok
    subst hlen
    simp only [stepK] at hr
    split at hr
    · cases cd <;> first
        | exact lv_icmp_eq hx hb hd ht (fun h => same _ _ _ ((if_pos h).symm.trans hr) _ hl) (fun h => same _ _ _ ((if_neg h).symm.trans hr) _ hl)
        | exact lv_icmp_lt hx hb hd ht (fun h => same _ _ _ ((if_pos h).symm.trans hr) _ hl) (fun h => same _ _ _ ((if_neg h).symm.trans hr) _ hl)
        | exact lv_icmp_ge hx hb hd ht (fun h => same _ _ _ ((if_pos h).symm.trans hr) _ hl) (fun h => same _ _ _ ((if_neg h).symm.trans hr) _ hl)
        | exact lv_icmp_gt hx hb hd ht (fun h => same _ _ _ ((if_pos h).symm.trans hr) _ hl) (fun h => same _ _ _ ((if_neg h).symm.trans hr) _ hl)
        | exact lv_icmp_le hx hb hd ht (fun h => same _ _ _ ((if_pos h).symm.trans hr) _ hl) (fun h => same _ _ _ ((if_neg h).symm.trans hr) _ hl)
        | exact lv_icmp_ne hx hb hd ht (fun h => same _ _ _ ((if_pos h).symm.trans hr) _ hl) (fun h => same _ _ _ ((if_neg (not_not_intro h)).symm.trans hr) _ hl)
    · cases hr
  case if_acmp cd off =>
    obtain ⟨hlen, ht⟩ := brT hok
    subst hlen
    simp only [stepK] at hr
    split at hr
    · cases cd <;> first
        | exact lv_acmp_eq hx hb hd ht (fun h => same _ _ _ ((if_pos h).symm.trans hr) _ hl) (fun h => same _ _ _ ((if_neg h).symm.trans hr) _ hl)
        | exact lv_acmp_ne hx hb hd ht (fun h => same _ _ _ ((if_neg h).symm.trans hr) _ hl) (fun h => same _ _ _ ((if_pos h).symm.trans hr) _ hl)
    · cases hr
  case ifnull off =>
    obtain ⟨hlen, ht⟩ := brT hok
    subst hlen
    simp only [stepK] at hr
    split at hr
    · rename_i x0 st0 _
      cases x0 with
      | none => exact lv_ifnullN hx hb hd ht (same _ _ _ hr _ hl)
      | some a => exact lv_ifnull hx hb hd (same _ _ _ hr _ hl)
    · cases hr
  case ifnonnull off =>
    obtain ⟨hlen, ht⟩ := brT hok
    subst hlen
    simp only [stepK] at hr
    split at hr
    · rename_i x0 st0 _
      cases x0 with
      | none => exact lv_ifnonnullN hx hb hd (same _ _ _ hr _ hl)
      | some a => exact lv_ifnonnull hx hb hd ht (same _ _ _ hr _ hl)
    · cases hr
  case goto off =>
    obtain ⟨hlen, ht⟩ := brT hok
    subst hlen
    exact lv_goto hx hb hd ht (same _ _ _ hr _ hl)
  case tableswitch d lo hi offs =>
    obtain ⟨hok, k5⟩ := and2 hok
    obtain ⟨hok, k4⟩ := and2 hok
    obtain ⟨hok, k3⟩ := and2 hok
    obtain ⟨k1, k2⟩ := and2 hok
    have k1 := of_decide_eq_true k1
    have k3 := of_decide_eq_true k3
    have k4 := of_decide_eq_true k4
    have k5 := of_decide_eq_true k5
    simp only [stepK] at hr
    split at hr
    · rename_i x0 st0 _
      rcases sw_some offs.toList lo k4 (by omega) hr with ⟨i, o, g1, g2, g3, g4⟩ | ⟨g1, g2⟩
      · have ho := of_decide_eq_true (List.all_eq_true.mp k2 o (List.mem_of_getElem? g3))
        refine lv_tableIn hx hb hd (by omega) (by omega) (off := o) ?_ (tgt := tgt pc o) (by unfold tgt; omega) (same _ _ _ g4 _ hl)
        rw [g2, show (lo + (i : Int) - lo).toNat = i by omega, ← Array.getElem?_toList]
        exact g3
      · exact lv_tableOut hx hb hd (by omega) (tgt := tgt pc d) (by unfold tgt; omega) (same _ _ _ g2 _ hl)
    · cases hr
  case getfield i =>
    obtain ⟨h1, h3⟩ := and2 hok
    have hlen : len = 3 := beqN h1
    subst hlen
    simp only [stepK] at hr
    split at hr
    all_goals first | (cases hr; done) | skip
    all_goals
      obtain ⟨a, rfl, hk, hr9⟩ := rd_some hr
      replace hr := hr9
      obtain ⟨r, hr1, hr2⟩ := any2 h3
      obtain ⟨hr2, q5⟩ := and2 hr2
      obtain ⟨hr2, q4⟩ := and2 hr2
      obtain ⟨hr2, q3⟩ := and2 hr2
      obtain ⟨q1, q2⟩ := and2 hr2
      have q3 := beqN q3
      have q4 := beqN q4
      have q5 : _ ∨ _ := Bool.or_eq_true _ _ ▸ q5
      subst q3 q4
      refine w_get hx hb hown hts hK hP hv hk hr1 (beqN q1) (beqN q2) rfl rfl hd ?_
    · rw [fv_I (by rcases q5 with q | q; exact Or.inl (beqN q); exact Or.inr (beqN (and2 q).1))]
      exact same _ _ _ hr _ hl
    · rw [fv_J (by rcases q5 with q | q; exact beqN q; exact absurd (beqN (and2 q).2) (by decide))]
      exact same _ _ _ hr _ hl
    · rw [fv_R (by rcases q5 with q | q; exact beqN q; exact absurd (beqN (and2 q).2) (by decide))]
      exact same _ _ _ hr _ hl
  case putfield i =>
    obtain ⟨h1, h3⟩ := and2 hok
    have hlen : len = 3 := beqN h1
    subst hlen
    simp only [stepK] at hr
    split at hr
    all_goals first | (cases hr; done) | skip
    all_goals
      obtain ⟨a, rfl, hk, hr9⟩ := rd_some hr
      replace hr := hr9
      obtain ⟨r, hr1, hr2⟩ := any2 h3
      obtain ⟨hr2, q6⟩ := and2 hr2
      obtain ⟨hr2, q5⟩ := and2 hr2
      obtain ⟨hr2, q4⟩ := and2 hr2
      obtain ⟨hr2, q3⟩ := and2 hr2
      obtain ⟨q1, q2⟩ := and2 hr2
      have q3 := beqN q3
      have q4 := beqN q4
      have q5 := beqN q5
      have q6 : _ ∨ _ := Bool.or_eq_true _ _ ▸ q6
      have hf : (fT r.2.2.1 r.2.2.2.1).2.2.2 = false ∨ ((fT r.2.2.1 r.2.2.2.1).2.2.2 = true ∧ meth.name = "<init>" ∧ (fT r.2.2.1 r.2.2.2.1).1 = cnm (mC y)) := by
        rcases q6 with q | q
        · rw [← q3] at q
          exact Or.inl (by simpa using q)
        · obtain ⟨qa, qb⟩ := and2 q
          rw [← q3] at qb
          cases hz : (fT r.2.2.1 r.2.2.2.1).2.2.2 with
          | false => exact Or.inl rfl
          | true => exact Or.inr ⟨rfl, hini (beqN qa), of_decide_eq_true qb⟩
      subst q3 q4
    · exact w_put (M' := sI M (64 * r.2.2.1 + r.2.2.2.1) a _) hx hb hown hts hK hP hv hS hk hr1 (beqN q1) (beqN q2) rfl rfl hd hf (fun ty h => nr_int _ ty (h.trans q5)) rfl rfl (fun b h => cell_sI h) (flds_sI (Or.inl q5)) (fun H1 locs1 hP1 hS1 => go _ _ _ _ hr (k_sI base M _ a _) H1 locs1 _ hP1 hS1 hl)
    · exact w_put (M' := sJ M (64 * r.2.2.1 + r.2.2.2.1) a _) hx hb hown hts hK hP hv hS hk hr1 (beqN q1) (beqN q2) rfl rfl hd hf (fun ty h => nr_long _ ty (h.trans q5)) rfl rfl (fun b h => cell_sJ h) (flds_sJ q5) (fun H1 locs1 hP1 hS1 => go _ _ _ _ hr (k_sJ base M _ a _) H1 locs1 _ hP1 hS1 hl)
    · exact w_put (M' := sF M (64 * r.2.2.1 + r.2.2.2.1) a _) hx hb hown hts hK hP hv hS hk hr1 (beqN q1) (beqN q2) rfl rfl hd hf (fun ty h => nr_ref _ ty (h.trans q5)) rfl rfl (fun b h => cell_sF h) (flds_sF q5) (fun H1 locs1 hP1 hS1 => go _ _ _ _ hr (k_sF base M _ a _) H1 locs1 _ hP1 hS1 hl)
    · obtain ⟨h01, hr⟩ := zo_some hr
      exact w_put (M' := sI M (64 * r.2.2.1 + r.2.2.2.1) a _) hx hb hown hts hK hP hv hS hk hr1 (beqN q1) (beqN q2) rfl rfl hd hf (fun ty h => nr_bool _ h01 ty (h.trans q5)) rfl rfl (fun b h => cell_sI h) (flds_sI (Or.inr q5)) (fun H1 locs1 hP1 hS1 => go _ _ _ _ hr (k_sI base M _ a _) H1 locs1 _ hP1 hS1 hl)
  case new i =>
    obtain ⟨h1, h3⟩ := and2 hok
    have hlen : len = 3 := beqN h1
    subst hlen
    simp only [stepK] at hr
    split at hr
    · rename_i c0 n0
      obtain ⟨hr0, hr⟩ := bq_some hr
      obtain ⟨h3, h4⟩ := and2 h3
      obtain ⟨h3, h5⟩ := and2 h3
      have hc : c0 < 13 := by have := Nat.le_of_ble_eq_true h3; omega
      have hn0 : n0 = nfl c0 := beqN h5
      subst hn0
      obtain ⟨r, hr1, hr2⟩ := any2 h4
      obtain ⟨hr2, q3⟩ := and2 hr2
      obtain ⟨q1, q2⟩ := and2 hr2
      have hw := hts _ (clk_in hr1) rfl
      rw [beqN q1, beqN q2, beqN q3, anm_own hc] at hw
      have hr : rnF PP n y (pc + 3) lz (pR (some (mT M)) :: st) (nO M c0 (nfl c0)) = some (vz, Me) := hr
      obtain ⟨t1, t2⟩ := top _ _ _ _ hr
      have t1 : mT M + 1 ≤ mT Me := t1
      have t2 : mS M + nfl c0 ≤ mS Me := t2
      refine w_new hx hb hown hts hK hP hv hS hsb hcl hc hw (by omega) (by omega) hd (fun H1 hP1 hS1 => ?_)
      have h := go _ _ _ _ hr (k_nO base M c0 (nfl c0) (by omega)) H1 locs _ hP1 hS1 hl
      rw [show mT (nO M c0 (nfl c0)) - mT M0 = (mT M - mT M0) + 1 by show mT M + 1 - mT M0 = _; omega, show mS (nO M c0 (nfl c0)) - mS M0 = (mS M - mS M0) + nfl c0 by show mS M + nfl c0 - mS M0 = _; omega] at h
      exact h
    · cases hr
  case newarray t =>
    obtain ⟨h1, h3⟩ := and2 hok
    have hlen : len = 2 := beqN h1
    subst hlen
    simp only [stepK] at hr
    split at hr
    · rename_i c0 n0 st0 _
      obtain ⟨hr0, hr⟩ := bq_some hr
      obtain ⟨hr1, hr⟩ := bq_some hr
      obtain ⟨⟨hn0, hn1⟩, hr⟩ := gd_some hr
      have hr : rnF PP n y (pc + 2) lz (pR (some (mT M)) :: st0) (nA M c0 n0.toNatClampNeg) = some (vz, Me) := hr
      obtain ⟨t1, t2⟩ := top _ _ _ _ hr
      have t1 : mT M + 1 ≤ mT Me := t1
      have t2 : mS M + n0.toNatClampNeg ≤ mS Me := t2
      have fin : ∀ H1, va_P D cls13 (wsOf base cA (nA M c0 n0.toNatClampNeg)) H1 → va_S (Ab base) s.heap H1 locs → W p l e R s m args below meth c H1 locs ((mT M - mT M0) + 1) ((mS M - mS M0) + n0.toNatClampNeg) Q (F0 m (pc + 2) lsA (.ref (mT M) :: st0.map pv)) := by
        intro H1 hP1 hS1
        have h := go _ _ _ _ hr (k_nA base M c0 n0.toNatClampNeg (Nat.le_of_ble_eq_true hr0) (Nat.le_of_ble_eq_true hr1)) H1 locs _ hP1 hS1 hl
        rw [show mT (nA M c0 n0.toNatClampNeg) - mT M0 = (mT M - mT M0) + 1 by show mT M + 1 - mT M0 = _; omega, show mS (nA M c0 n0.toNatClampNeg) - mS M0 = (mS M - mS M0) + n0.toNatClampNeg by show mS M + n0.toNatClampNeg - mS M0 = _; omega] at h
        exact h
      have h3 : _ ∨ _ := Bool.or_eq_true _ _ ▸ h3
      have hkd : kd (nA M c0 n0.toNatClampNeg) (mT M) = c0 := if_pos rfl
      have hln : ln (nA M c0 n0.toNatClampNeg) (mT M) = n0.toNatClampNeg := if_pos rfl
      have hai : aI (nA M c0 n0.toNatClampNeg) (mT M) = fun _ => 0 := if_pos rfl
      have haj : aJ (nA M c0 n0.toNatClampNeg) (mT M) = fun _ => 0 := if_pos rfl
      rcases h3 with h3 | h3
      · have h3 : _ ∨ _ := Bool.or_eq_true _ _ ▸ h3
        rcases h3 with h3 | h3
        · obtain ⟨g1, g2⟩ := and2 h3
          have g1 := beqN g1
          have g2 := of_decide_eq_true g2
          subst g1 g2
          exact w_newa (at0 := .int) (ty := .int) (t0 := 0) (a0 := (n0.toNatClampNeg, .inl (fun _ => 0))) hx hb hts hK hP hv hS hsb hcl (by omega) rfl ac_int.1 rfl (fun x u1 u2 => Option.some.inj ((va_nm_int u1).symm.trans (va_nm_int u2))) (fun x => rfl) (by rw [arrc_20 hkd, hln, hai]) hn0 (by show n0.toNatClampNeg * 4 ≤ _; omega) (by omega) (by omega) hd fin
        · obtain ⟨g1, g2⟩ := and2 h3
          have g1 := beqN g1
          have g2 := of_decide_eq_true g2
          subst g1 g2
          exact w_newa (at0 := .long) (ty := .long) (t0 := 1) (a0 := (n0.toNatClampNeg, .inr (.inl (fun _ => 0)))) hx hb hts hK hP hv hS hsb hcl (by omega) rfl ac_int.2.1 rfl (fun x u1 u2 => Option.some.inj ((va_nm_long u1).symm.trans (va_nm_long u2))) (fun x => rfl) (by rw [arrc_21 hkd, hln, haj]) hn0 (by show n0.toNatClampNeg * 8 ≤ _; omega) (by omega) (by omega) hd fin
      · obtain ⟨g1, g2⟩ := and2 h3
        have g1 := beqN g1
        have g2 := of_decide_eq_true g2
        subst g1 g2
        exact w_newa (at0 := .boolean) (ty := .boolean) (t0 := 2) (a0 := (n0.toNatClampNeg, .inl (fun _ => 0))) hx hb hts hK hP hv hS hsb hcl (by omega) rfl ac_int.2.2 rfl (fun x u1 u2 => Option.some.inj ((va_nm_boolean u1).symm.trans (va_nm_boolean u2))) (fun x => rfl) (by rw [arrc_22 hkd, hln, hai]) hn0 (by show n0.toNatClampNeg * 1 ≤ _; omega) (by omega) (by omega) hd fin
    · cases hr
  case anewarray i =>
    obtain ⟨h1, h3⟩ := and2 hok
    have hlen : len = 3 := beqN h1
    subst hlen
    simp only [stepK] at hr
    split at hr
    · rename_i c0 n0 st0 _
      obtain ⟨hr0, hr⟩ := bq_some hr
      obtain ⟨hr1, hr⟩ := bq_some hr
      obtain ⟨⟨hn0, hn1⟩, hr⟩ := gd_some hr
      have hr : rnF PP n y (pc + 3) lz (pR (some (mT M)) :: st0) (nA M c0 n0.toNatClampNeg) = some (vz, Me) := hr
      obtain ⟨t1, t2⟩ := top _ _ _ _ hr
      have t1 : mT M + 1 ≤ mT Me := t1
      have t2 : mS M + n0.toNatClampNeg ≤ mS Me := t2
      have fin : ∀ H1, va_P D cls13 (wsOf base cA (nA M c0 n0.toNatClampNeg)) H1 → va_S (Ab base) s.heap H1 locs → W p l e R s m args below meth c H1 locs ((mT M - mT M0) + 1) ((mS M - mS M0) + n0.toNatClampNeg) Q (F0 m (pc + 3) lsA (.ref (mT M) :: st0.map pv)) := by
        intro H1 hP1 hS1
        have h := go _ _ _ _ hr (k_nA base M c0 n0.toNatClampNeg (Nat.le_of_ble_eq_true hr0) (Nat.le_of_ble_eq_true hr1)) H1 locs _ hP1 hS1 hl
        rw [show mT (nA M c0 n0.toNatClampNeg) - mT M0 = (mT M - mT M0) + 1 by show mT M + 1 - mT M0 = _; omega, show mS (nA M c0 n0.toNatClampNeg) - mS M0 = (mS M - mS M0) + n0.toNatClampNeg by show mS M + n0.toNatClampNeg - mS M0 = _; omega] at h
        exact h
      have h3 : _ ∨ _ := Bool.or_eq_true _ _ ▸ h3
      rcases h3 with h3 | h3
      · obtain ⟨g1, g2⟩ := and2 h3
        have g1 := beqN g1
        subst g1
        obtain ⟨r, hr1, hr2⟩ := any2 g2
        obtain ⟨hr2, q3⟩ := and2 hr2
        obtain ⟨q1, q2⟩ := and2 hr2
        have hw := hts _ (clk_in hr1) rfl
        rw [beqN q1, beqN q2, beqN q3] at hw
        exact w_newq (t0 := 3) (E := "java/lang/Object") hx hb hown hK hP hv hS hsb hcl (Or.inl rfl) hw hNW.1 rfl hn0 (by omega) (by omega) (by omega) hd fin
      · obtain ⟨g1, g2⟩ := and2 h3
        have g1 := beqN g1
        subst g1
        obtain ⟨r, hr1, hr2⟩ := any2 g2
        obtain ⟨hr2, q3⟩ := and2 hr2
        obtain ⟨q1, q2⟩ := and2 hr2
        have hw := hts _ (clk_in hr1) rfl
        rw [beqN q1, beqN q2, beqN q3] at hw
        exact w_newq (t0 := 4) (E := "FamilyFields$KeptPart") hx hb hown hK hP hv hS hsb hcl (Or.inr rfl) hw hNW.2.1 rfl hn0 (by omega) (by omega) (by omega) hd fin
    · cases hr
  case arraylength =>
    have hlen : len = 1 := beqN hok
    subst hlen
    simp only [stepK] at hr
    split at hr
    · obtain ⟨a, rfl, hk, hr9⟩ := al_some hr
      replace hr := hr9
      exact w_alen hx hb hK hP hv hSF hS hk hd (same _ _ _ hr _ hl)
    · cases hr
  case iaload =>
    have hlen : len = 1 := beqN hok
    subst hlen
    simp only [stepK] at hr
    split at hr
    · obtain ⟨a, rfl, hk, hi, hr9⟩ := ix_some hr
      replace hr := hr9
      exact w_iald hx hb hK hP hv hSF hS hk hi hd (same _ _ _ hr _ hl)
    · cases hr
  case laload =>
    have hlen : len = 1 := beqN hok
    subst hlen
    simp only [stepK] at hr
    split at hr
    · obtain ⟨a, rfl, hk, hi, hr9⟩ := ix_some hr
      replace hr := hr9
      exact w_lald hx hb hK hP hv (by rcases hk with h | h <;> exact h) hi hd (same _ _ _ hr _ hl)
    · cases hr
  case baload =>
    have hlen : len = 1 := beqN hok
    subst hlen
    simp only [stepK] at hr
    split at hr
    · obtain ⟨a, rfl, hk, hi, hr9⟩ := ix_some hr
      replace hr := hr9
      exact w_zald hx hb hK hP hv (by rcases hk with h | h <;> exact h) hi hd (same _ _ _ hr _ hl)
    · cases hr
  case aaload =>
    have hlen : len = 1 := beqN hok
    subst hlen
    simp only [stepK] at hr
    split at hr
    · obtain ⟨a, rfl, hk, hi, hr9⟩ := ix_some hr
      replace hr := hr9
      exact w_aald hx hb hK hP hv hk hi hd (same _ _ _ hr _ hl)
    · cases hr
  case iastore =>
    have hlen : len = 1 := beqN hok
    subst hlen
    simp only [stepK] at hr
    split at hr
    · obtain ⟨a, rfl, hk, hi, hr9⟩ := ix_some hr
      replace hr := hr9
      have hk : kd M a = 20 := by rcases hk with h | h <;> exact h
      exact w_iast hx hb hK hP hv hS hk hi hd (fun H1 locs1 hP1 hS1 => go _ _ _ _ hr (k_uI base M a _ (by omega)) H1 locs1 _ hP1 hS1 hl)
    · cases hr
  case lastore =>
    have hlen : len = 1 := beqN hok
    subst hlen
    simp only [stepK] at hr
    split at hr
    · obtain ⟨a, rfl, hk, hi, hr9⟩ := ix_some hr
      replace hr := hr9
      have hk : kd M a = 21 := by rcases hk with h | h <;> exact h
      exact w_last hx hb hK hP hv hS hk hi hd (fun H1 locs1 hP1 hS1 => go _ _ _ _ hr (k_uJ base M a _ (by omega)) H1 locs1 _ hP1 hS1 hl)
    · cases hr
  case bastore =>
    have hlen : len = 1 := beqN hok
    subst hlen
    simp only [stepK] at hr
    split at hr
    · obtain ⟨a, rfl, hk, hi, hr9⟩ := ix_some hr
      replace hr := hr9
      have hk : kd M a = 22 := by rcases hk with h | h <;> exact h
      obtain ⟨h01, hr⟩ := zo_some hr
      exact w_zast hx hb hK hP hv hS hk hi h01 hd (fun H1 locs1 hP1 hS1 => go _ _ _ _ hr (k_uI base M a _ (by omega)) H1 locs1 _ hP1 hS1 hl)
    · cases hr
  case aastore =>
    have hlen : len = 1 := beqN hok
    subst hlen
    simp only [stepK] at hr
    split at hr
    · obtain ⟨a, rfl, hk, hi, hr9⟩ := ix_some hr
      replace hr := hr9
      split at hr
      · rename_i ho
        refine w_aast hx hb hK hP hv hNW hS hk hi ho hd (fun H1 locs1 hP1 hS1 => go _ _ _ _ hr (k_uR base M a _ (by omega) fun hP ha i z hz => ?_) H1 locs1 _ hP1 hS1 hl)
        unfold up1 at hz
        split at hz
        · subst hz
          rcases ho with g | g
          · exact g.2
          · omega
        · exact hP.2.2 a ha _ _ hz
      · cases hr
    · cases hr
  case checkcast i =>
    obtain ⟨h1, h3⟩ := and2 hok
    have hlen : len = 3 := beqN h1
    subst hlen
    simp only [stepK] at hr
    split at hr
    · rename_i c0 x0 st0 _
      obtain ⟨hk, hr⟩ := ck_some hr
      obtain ⟨h3, h4⟩ := and2 h3
      obtain ⟨r, hr1, hr2⟩ := any2 h4
      obtain ⟨hr2, q3⟩ := and2 hr2
      obtain ⟨q1, q2⟩ := and2 hr2
      have hw := hts _ (clk_in hr1) rfl
      rw [beqN q1, beqN q2, beqN q3] at hw
      have hci : c0 ≤ 12 ∨ c0 = 21 ∨ c0 = 23 := by
        have h3 : _ ∨ _ := Bool.or_eq_true _ _ ▸ h3
        rcases h3 with h3 | h3
        · have h3 : _ ∨ _ := Bool.or_eq_true _ _ ▸ h3
          rcases h3 with h3 | h3
          · exact Or.inl (Nat.le_of_ble_eq_true h3)
          · exact Or.inr (Or.inl (beqN h3))
        · exact Or.inr (Or.inr (beqN h3))
      exact w_cast hx hb hown hK hP hv hw hci hk hd (same _ _ _ hr _ hl)
    · cases hr
  case ireturn =>
    obtain ⟨h1, h3⟩ := and2 hok
    have hlen : len = 1 := beqN h1
    subst hlen
    simp only [stepK] at hr
    split at hr
    · cases hr
      exact hend pc lsA H locs _ hd (Or.inl ⟨rfl, _, rfl, Or.inl (of_decide_eq_true h3)⟩) hP hS
    · obtain ⟨h01, hr⟩ := zo_some hr
      cases hr
      exact hend pc lsA H locs _ hd (Or.inl ⟨rfl, _, rfl, Or.inr ⟨of_decide_eq_true h3, h01⟩⟩) hP hS
    · cases hr
  case lreturn =>
    obtain ⟨h1, h3⟩ := and2 hok
    have hlen : len = 1 := beqN h1
    subst hlen
    simp only [stepK] at hr
    split at hr
    · cases hr
      exact hend pc lsA H locs _ hd (Or.inr (Or.inl ⟨rfl, _, rfl, of_decide_eq_true h3⟩)) hP hS
    · cases hr
  case areturn =>
    obtain ⟨h1, h3⟩ := and2 hok
    have hlen : len = 1 := beqN h1
    subst hlen
    simp only [stepK] at hr
    split at hr
    · cases hr
      refine hend pc lsA H locs _ hd (Or.inr (Or.inr (Or.inl ⟨rfl, _, rfl, ?_⟩))) hP hS
      split at h3
      · rename_i q; exact Or.inl ⟨_, q⟩
      · rename_i q; exact Or.inr ⟨_, q⟩
      · cases h3
    · cases hr
  case return_ =>
    obtain ⟨h1, h3⟩ := and2 hok
    have hlen : len = 1 := beqN h1
    subst hlen
    simp only [stepK] at hr
    split at hr
    · cases hr
      exact hend pc lsA H locs _ hd (Or.inr (Or.inr (Or.inr ⟨rfl, rfl, of_decide_eq_true h3⟩))) hP hS
    · cases hr
  case invokevirtual i =>
    obtain ⟨h1, h3⟩ := and2 hok
    have hlen : len = 3 := beqN h1
    subst hlen
    have hr : invK (fun z mx as M => rnF PP n z 0 (ent as mx) [] M) (rnF PP n y) pc 3 ns lz st M = some (vz, Me) := hr
    refine W_size fun hz0 => ?_
    have hHz : H.size = mT M := Nat.le_antisymm (by omega) (size_ge hP (Nat.le_trans hsb hS.1))
    split at h3
    · rename_i z na rk mx rc _
      obtain ⟨h3, hcb⟩ := and2 h3
      obtain ⟨h3, hrc⟩ := and2 h3
      obtain ⟨h3, hmc⟩ := and2 h3
      obtain ⟨hz, hk1⟩ := and2 h3
      have hz := ltN hz
      have hk1 := beqN hk1
      have hmc := beqN hmc
      have hrc := Nat.le_of_ble_eq_true hrc
      obtain ⟨c1, c2, c3, c4, c5, r, c6, c7, c8, c9⟩ := cb_spec hcb
      subst c1
      obtain ⟨a, as, st', hp, hw8, hwm, hka, hcl1⟩ := inv_ob hrc hr
      obtain ⟨v, M1, ho, hk⟩ := clK_some hcl1
      obtain ⟨hcc, kk⟩ := called z (pR (some a) :: as) st' v M1 ho hk
      have hM := met_of hz hn (by rw [lg_len]; exact hwm) ho hv
      obtain ⟨xs, e1, e2, e3⟩ := popN_spec na st [] _ _ hp
      rw [List.append_nil] at e1
      subst e1
      have est : st.map pv = (as.map pv).reverse ++ .ref a :: st'.map pv := by rw [e2]; simp [pv, va_rf]
      rw [est]
      exact w_callV hx hb hml hsize hown hts hK hP hv hSF hNW hS hHz hz hk1 c6 c7 c8 c9 c3 e3 hM (hka.trans hmc.symm) (by omega) (by omega) (by omega) hw8 hcc hd kk
    · rename_i z _
      obtain ⟨h3, hsp⟩ := and2 h3
      have h3 : _ ∨ _ := Bool.or_eq_true _ _ ▸ h3
      obtain ⟨s1, s2, hw⟩ := sp_spec hsp
      have hw := hts _ hw rfl
      rcases h3 with h3 | h3
      · have h3 := beqN h3
        subst h3
        simp only [invK] at hr
        split at hr
        · rename_i x0 st0 _
          obtain ⟨w8, hr⟩ := bq_some hr
          have w8 := Nat.le_of_ble_eq_true w8
          obtain ⟨a, rfl, hk, hr9⟩ := rd_some hr
          replace hr := hr9
          obtain ⟨mi, u1, u2⟩ := hSF.2.2.2.2.1
          rw [u1] at hr
          exact w_getC hx hb (hml.trans hsize.symm) hown hts hK hP hv hNW u2 hw hk (by omega) (by rw [wds_sum]; omega) hd (same _ _ _ hr _ hl)
        · cases hr
      · have h3 := beqN h3
        subst h3
        simp only [invK] at hr
        split at hr
        · rename_i x0 st0 _ _
          obtain ⟨w8, hr⟩ := bq_some hr
          have w8 := Nat.le_of_ble_eq_true w8
          cases x0 with
          | none => cases hr
          | some a =>
            have hr : (if kd M a = 21 then rnF PP n y (pc + 3) lz (pR (some (mT M)) :: st0) (uJ (nA M 21 (ln M a)) (mT M) (aJ M a)) else none) = some (vz, Me) := hr
            split at hr
            · rename_i hk
              obtain ⟨t1, t2⟩ := top _ _ _ _ hr
              have t1 : mT M + 1 ≤ mT Me := t1
              have t2 : mS M + ln M a ≤ mS Me := t2
              refine w_cnJ hx hb (hml.trans hsize.symm) hown hts hK hP hv hNW hS hsb hcl hw hk (by omega) (by rw [wds_sum]; omega) (by omega) (by omega) hd (fun H1 hP1 hS1 => ?_)
              have h := go _ _ _ _ hr ((k_nA base M 21 (ln M a) (by omega) (by omega)).tr (k_uJ base _ (mT M) _ (by show (if mT M = mT M then 21 else _) ≤ 24; rw [if_pos rfl]; omega))) H1 locs _ hP1 hS1 hl
              rw [show mT (uJ (nA M 21 (ln M a)) (mT M) (aJ M a)) - mT M0 = (mT M - mT M0) + 1 by show mT M + 1 - mT M0 = _; omega, show mS (uJ (nA M 21 (ln M a)) (mT M) (aJ M a)) - mS M0 = (mS M - mS M0) + ln M a by show mS M + ln M a - mS M0 = _; omega] at h
              exact h
            · cases hr
        · cases hr
    · cases h3
  case invokestatic i =>
    obtain ⟨h1, h3⟩ := and2 hok
    have hlen : len = 3 := beqN h1
    subst hlen
    have hr : invK (fun z mx as M => rnF PP n z 0 (ent as mx) [] M) (rnF PP n y) pc 3 ns lz st M = some (vz, Me) := hr
    refine W_size fun hz0 => ?_
    have hHz : H.size = mT M := Nat.le_antisymm (by omega) (size_ge hP (Nat.le_trans hsb hS.1))
    split at h3
    · rename_i z na rk mx rc _
      obtain ⟨h3, hcb⟩ := and2 h3
      obtain ⟨h3, hrc⟩ := and2 h3
      obtain ⟨hz, hk1⟩ := and2 h3
      have hz := ltN hz
      have hk1 := beqN hk1
      have hrc := beqN hrc
      obtain ⟨c1, c2, c3, c4, c5, r, c6, c7, c8, c9⟩ := cb_spec hcb
      subst c1 hrc
      obtain ⟨as, st', hp, hw8, hwm, hcl1⟩ := inv_st hr
      obtain ⟨v, M1, ho, hk⟩ := clK_some hcl1
      obtain ⟨hcc, kk⟩ := called z as st' v M1 ho hk
      have hM := met_of hz hn (by rw [lg_len]; exact hwm) ho hv
      obtain ⟨xs, e1, e2, e3⟩ := popN_spec na st [] _ _ hp
      rw [List.append_nil] at e1
      subst e1
      have est : st.map pv = (as.map pv).reverse ++ st'.map pv := by rw [e2]; simp
      rw [est]
      exact w_callS hx hb hml hsize hown hts hK hP hSF hNW hS hHz hz hk1 c6 c7 c8 c9 c3 e3 hM (by omega) (by omega) hw8 hcc hd kk
    · rename_i z _
      obtain ⟨h3, hsp⟩ := and2 h3
      obtain ⟨s1, s2, hw⟩ := sp_spec hsp
      have hw := hts _ hw rfl
      obtain ⟨-, -, -, ⟨wa1, wa2, wa3⟩, ⟨wb1, wb2, wb3⟩, ⟨wc1, wc2⟩, ⟨wd1, wd2⟩, -⟩ := sp_words
      rcases or6 h3 with h3 | h3 | h3 | h3 | h3 | h3
      · have h3 := beqN h3
        subst h3
        simp only [invK] at hr
        split at hr
        · rename_i n0 dp yy sp xx st0 _ _
          obtain ⟨w8, hr⟩ := bq_some hr
          have w8 := Nat.le_of_ble_eq_true w8
          rcases xx with _ | a <;> rcases yy with _ | b <;> first | (cases hr; done) | skip
          simp only [cpJ] at hr
          split at hr
          · rename_i g
            obtain ⟨g1, g2, g3, g4, g5, g6, g7⟩ := g
            exact w_cpJ hx hb (hml.trans hsize.symm) hown hts hK hP hv hS hw g1 g2 g3 g4 g5 g6 g7 (by omega) (by rw [wds_sum]; omega) (by rw [wds_sum]; omega) hd (fun H1 locs1 hP1 hS1 => go _ _ _ _ hr (k_uJ base M b _ (by omega)) H1 locs1 _ hP1 hS1 hl)
          · cases hr
        · cases hr
      · have h3 := beqN h3
        subst h3
        simp only [invK] at hr
        split at hr
        · rename_i n0 dp yy sp xx st0 _ _
          obtain ⟨w8, hr⟩ := bq_some hr
          have w8 := Nat.le_of_ble_eq_true w8
          rcases xx with _ | a <;> rcases yy with _ | b <;> first | (cases hr; done) | skip
          simp only [cpR] at hr
          split at hr
          · rename_i g
            obtain ⟨g1, g2, g3, g4, g5, g6, g7⟩ := g
            refine w_cpR hx hb (hml.trans hsize.symm) hown hts hK hP hv hNW hS hw g1 g2 g3 g4 g5 g6 g7 (by omega) (by rw [wds_sum]; omega) (by rw [wds_sum]; omega) hd (fun H1 locs1 hP1 hS1 => go _ _ _ _ hr (k_uR base M b _ (by omega) fun g hb j z hz => ?_) H1 locs1 _ hP1 hS1 hl)
            unfold va_cpy at hz
            split at hz
            · exact g.2.2 a g1 _ _ hz
            · exact g.2.2 b hb _ _ hz
          · cases hr
        · cases hr
      · have h3 := beqN h3
        subst h3
        simp only [invK] at hr
        split at hr
        · rename_i x0 st0 _
          obtain ⟨w8, hr⟩ := bq_some hr
          have w8 := Nat.le_of_ble_eq_true w8
          obtain ⟨hg, hr⟩ := gd_some hr
          exact vn_i2f hx hb (hml.trans hsize.symm) hown hw (hts _ wa1 rfl) (hts _ wa2 rfl) (hts _ wa3 rfl) hg (by omega) (by rw [wds_sum]; omega) hd (same _ _ _ hr _ hl)
        · cases hr
      · have h3 := beqN h3
        subst h3
        simp only [invK] at hr
        split at hr
        · rename_i x0 st0 _
          obtain ⟨w8, hr⟩ := bq_some hr
          have w8 := Nat.le_of_ble_eq_true w8
          obtain ⟨hg, hr⟩ := gd_some hr
          exact vn_l2d hx hb (hml.trans hsize.symm) hown hw (hts _ wb1 rfl) (hts _ wb2 rfl) (hts _ wb3 rfl) hg (by omega) (by rw [wds_sum]; omega) hd (same _ _ _ hr _ hl)
        · cases hr
      · have h3 := beqN h3
        subst h3
        simp only [invK] at hr
        split at hr
        · rename_i x0 st0 _
          obtain ⟨w8, hr⟩ := bq_some hr
          have w8 := Nat.le_of_ble_eq_true w8
          exact vn_d2l hx hb (hml.trans hsize.symm) hown hw (hts _ wc1 rfl) (hts _ wc2 rfl) (hts _ wb3 rfl) (by omega) (by rw [wds_sum]; omega) hd (same _ _ _ hr _ hl)
        · cases hr
      · have h3 := beqN h3
        subst h3
        simp only [invK] at hr
        split at hr
        · rename_i x0 st0 _
          obtain ⟨w8, hr⟩ := bq_some hr
          have w8 := Nat.le_of_ble_eq_true w8
          exact vn_f2i hx hb (hml.trans hsize.symm) hown hw (hts _ wd1 rfl) (hts _ wd2 rfl) (hts _ wa3 rfl) (by omega) (by rw [wds_sum]; omega) hd (same _ _ _ hr _ hl)
        · cases hr
    · cases h3
  case invokespecial i =>
    obtain ⟨h1, h3⟩ := and2 hok
    have hlen : len = 3 := beqN h1
    subst hlen
    have hr : invK (fun z mx as M => rnF PP n z 0 (ent as mx) [] M) (rnF PP n y) pc 3 ns lz st M = some (vz, Me) := hr
    refine W_size fun hz0 => ?_
    have hHz : H.size = mT M := Nat.le_antisymm (by omega) (size_ge hP (Nat.le_trans hsb hS.1))
    split at h3
    · rename_i z na rk mx rc _
      obtain ⟨h3, hcb⟩ := and2 h3
      obtain ⟨h3, hrk⟩ := and2 h3
      obtain ⟨h3, hrc⟩ := and2 h3
      obtain ⟨hz, hk1⟩ := and2 h3
      have hz := ltN hz
      have hk1 := beqN hk1
      have hrk := beqN hrk
      have hrc := Nat.le_of_ble_eq_true hrc
      obtain ⟨c1, c2, c3, c4, c5, r, c6, c7, c8, c9⟩ := cb_spec hcb
      have hrt : mR z = none := rk_none (c2.symm.trans hrk)
      subst c1
      obtain ⟨a, as, st', hp, hw8, hwm, hka, hcl1⟩ := inv_ob hrc hr
      obtain ⟨v, M1, ho, hk⟩ := clK_some hcl1
      obtain ⟨hcc, kk⟩ := called z (pR (some a) :: as) st' v M1 ho hk
      have hM := met_of hz hn (by rw [lg_len]; exact hwm) ho hv
      obtain ⟨xs, e1, e2, e3⟩ := popN_spec na st [] _ _ hp
      rw [List.append_nil] at e1
      subst e1
      have est : st.map pv = (as.map pv).reverse ++ .ref a :: st'.map pv := by rw [e2]; simp [pv, va_rf]
      rw [est]
      exact w_callI hx hb hml hsize hown hts hK hP hSF hNW hS hHz hz hk1 hrt c6 c7 c8 c9 c3 e3 hM (by omega) (by omega) hw8 hcc hd kk
    · rename_i z _
      obtain ⟨h3, hsp⟩ := and2 h3
      obtain ⟨s1, s2, hw⟩ := sp_spec hsp
      have hw := hts _ hw rfl
      obtain ⟨-, -, -, -, -, -, -, wo⟩ := sp_words
      have h3 := beqN h3
      subst h3
      simp only [invK] at hr
      split at hr
      · rename_i x0 st0 _
        obtain ⟨w8, hr⟩ := bq_some hr
        have w8 := Nat.le_of_ble_eq_true w8
        obtain ⟨a, rfl, hr9⟩ := nn_some hr
        replace hr := hr9
        exact W.objInit hx hb hown hw (hts _ wo rfl) (hts _ obj_code rfl) rfl (hsize.trans hml.symm) rfl hd (by omega) (by rw [wds_sum]; show 2 * 0 + _ + 12 ≤ _; omega) (same _ _ _ hr _ hl)
      · cases hr
    · cases h3
  all_goals exact pl _ hd hok hr
theorem snd_all {l : Launch} {D : va_G} {cA : Nat → ClassId} {base : Nat} : ∀ n, Snd l D cA base PP n
  | 0 => by
    intro y pc ls st M vz Me hr
    cases hr
  | n + 1 => snd_step (snd_all n)
