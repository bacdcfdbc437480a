/-! THE START AND THE END: the law answers 1 -/
section ST
variable {x n s : Nat} {cz ca : Nat → Int32} {M0 M M' : Mem}
theorem BB.obj {c len : Nat} (h : BB x n s cz ca M0 M) (hc : c ≤ 22) (h12 : n = 12 → ∀ k, cz k = 0) : BB x (n + 1) (s + len) cz ca M0 (nO M c len) ∧ (∀ o, GF 2 o M (nO M c len)) ∧ kd (nO M c len) (x + n) = c := by
  obtain ⟨⟨b1, b2, b3⟩, b4, b5, b6, b7, b8, b9, b10⟩ := h
  refine ⟨⟨⟨?_, ?_, ?_⟩, fun a ha => ?_, fun a ha => ?_, fun a => ?_, fun k a ha => ?_, fun a i ha => ?_, fun a i ha => ?_, fun l d hd => ?_⟩, fun o => ⟨fun a ha => ⟨?_, ?_⟩, fun k a ha hk => ?_⟩, ?_⟩
  · rw [mT_nO, b1]; omega
  · rw [mS_nO]; omega
  · rw [sR_nO, b3]
  · rw [kd_nO, up1_no (by omega), ln_nO, aI_nO]
    exact b4 a ha
  · rw [kd_nO, up1_no (by omega)]
    exact b5 a (by omega)
  · rw [kd_nO]
    by_cases z : a = mT M
    · rw [z, up1_at]; omega
    · rw [up1_no z]; exact b6 a
  · rw [gI_nO]
    by_cases z : a = mT M
    · rw [z, clr_at]
      by_cases w : n = 12
      · rw [if_pos (by omega), h12 w k]
      · rw [if_neg (by omega)]
    · rw [clr_no z]; exact b7 k a ha
  · rw [aI_nO]; exact b8 a i ha
  · rw [aJ_nO]; exact b9 a i ha
  · rw [gR_nO] at hd
    by_cases z : l = mT M
    · rw [z, clr_at] at hd
      exact nomatch hd
    · rw [clr_no z] at hd
      exact b10 l d hd
  · rw [kd_nO, up1_no (by omega)]
  · rw [ln_nO]
  · rw [gR_nO, clr_no (by omega)]
  · rw [kd_nO, ← b1, up1_at]
def S00 : TS := (0, 0, [], fun _ => 0, ca0, 0, 0, 0)
theorem aw0 : AW [] [] [] [] [] [] S00 0 0 := by
  refine ⟨(fun _ _ h => nomatch h), (fun _ _ h => nomatch h), (fun _ _ h => nomatch h), (fun _ _ h => nomatch h), (fun _ _ h => nomatch h), rfl, ?_, ?_, ?_, rfl, ?_, ?_, ?_, ?_, (fun _ _ _ h => nomatch h)⟩
  · exact Nat.zero_le _
  · exact Nat.zero_le _
  · exact Nat.zero_le _
  · exact Nat.zero_le _
  · exact Nat.zero_le _
  · exact Nat.zero_le _
  · exact Nat.zero_le _
theorem isL0 {l de : Nat} (h : BB x n s cz ca M0 M) (hde : sR M0 3 = some de) (hd : de < x) (hk0 : kd M0 de = 33) (hl0 : ln M0 de = 0) (hl : x ≤ l ∧ l ≠ x + 12) (hk : kd M l = 0) (h1 : gR M 1 l = sR M0 3) : isL M l [] := by
  obtain ⟨⟨b1, b2, b3⟩, b4, b5, b6, b7, b8, b9, b10⟩ := h
  obtain ⟨d1, d2, -⟩ := b4 de hd
  refine ⟨hk, by rw [b7 2 l hl.1, if_neg hl.2]; rfl, Nat.zero_le _, de, h1.trans hde, Nat.zero_le _, by rw [d2, hl0]; omega, (fun i a hi => nomatch hi), Or.inr ⟨by rw [b3]; exact hde, rfl, by rw [d2]; exact hl0, by rw [d1]; exact hk0⟩⟩
theorem inv0 {cs wi no de : Nat} (h : BB x 58 s cz0 ca0 M0 M) (hk : kd M (x + 12) = 12) (hx : kd M x = 11) (hm : TB M0 (x + 12) mtab M) (ht : TB M0 x xtab M) (s0 : sR M0 0 = some cs ∧ cs < x ∧ kd M0 cs = 30 ∧ ln M0 cs = 7 ∧ aI M0 cs = csv) (s1 : sR M0 1 = some wi ∧ wi < x ∧ kd M0 wi = 30 ∧ ln M0 wi = 12 ∧ aI M0 wi = wiv) (s2 : sR M0 2 = some no ∧ no < x ∧ kd M0 no = 31 ∧ ln M0 no = 0) (s3 : sR M0 3 = some de ∧ de < x ∧ kd M0 de = 33 ∧ ln M0 de = 0) (hk0 : ∀ a, a < x → 25 ≤ kd M0 a) : Inv x [] [] [] [] [] [] S00 0 0 M := by
  obtain ⟨⟨b1, b2, b3⟩, b4, b5, b6, b7, b8, b9, b10⟩ := id h
  have li : ∀ i, i < 12 → kd M (x + i) = 0 → gR M 1 (x + i) = sR M0 3 → isL M (x + i) [] := fun i hi h1 h2 => isL0 h s3.1 s3.2.1 s3.2.2.1 s3.2.2.2 (by omega) h1 h2
  have lt : ∀ q ∈ xtab, q.2.2.1 = 0 → q.2.1 < 12 → isL M (x + q.2.1) [] := fun q hq h0 h12 => li _ h12 (by rw [(ht q hq).2.1]; exact h0) ((ht q hq).2.2.2 h0)
  have io : ∀ {α : Type} {l : Nat} {P : α → Nat → Prop}, isL M l [] → isO M x l P [] := fun {α l P} h => ⟨[], h, (fun _ _ _ h => nomatch h), rfl, (fun _ _ _ h => nomatch h)⟩
  have gx : ∀ k, gI M k x = 0 := fun k => by rw [b7 k x (by omega), if_neg (by omega)]
  have gm : ∀ k, gI M k (x + 12) = cz0 k := fun k => by rw [b7 k (x + 12) (by omega), if_pos rfl]
  have zi : ∀ i j, aI M (x + 12 + i) j = 0 := fun i j => by rw [b8 _ _ (by omega), if_neg (by omega)]
  have zj : ∀ i j, aJ M (x + 12 + i) j = 0 := fun i j => b9 _ _ (by omega)
  obtain ⟨d1, d2, -⟩ := b4 de s3.2.1
  refine ⟨⟨⟨⟨hx, fun q hq => ⟨(ht q hq).1, (ht q hq).2.1, (ht q hq).2.2.1⟩, by omega, ⟨cs, by rw [b3]; exact s0.1, s0.2.1, by rw [(b4 cs s0.2.1).1]; exact s0.2.2.1, by rw [(b4 cs s0.2.1).2.1]; exact s0.2.2.2.1, by rw [(b4 cs s0.2.1).2.2]; exact s0.2.2.2.2⟩, ⟨wi, by rw [b3]; exact s1.1, s1.2.1, by rw [(b4 wi s1.2.1).1]; exact s1.2.2.1, by rw [(b4 wi s1.2.1).2.1]; exact s1.2.2.2.1, by rw [(b4 wi s1.2.1).2.2]; exact s1.2.2.2.2⟩, ⟨no, by rw [b3]; exact s2.1, s2.2.1, by rw [(b4 no s2.2.1).1]; exact s2.2.2.1, by rw [(b4 no s2.2.1).2.1]; exact s2.2.2.2⟩, ⟨de, by rw [b3]; exact s3.1, s3.2.1, by rw [d1]; exact s3.2.2.1, by rw [d2]; exact s3.2.2.2⟩⟩, ⟨by omega, fun a ha => ?_, fun a ha => absurd ha (b6 a)⟩, ⟨fun l d _ hd => ?_, fun _ _ d _ _ _ _ hd => absurd hd (b6 d), fun _ _ d _ _ _ _ _ _ _ _ hd => absurd hd (b6 d)⟩⟩, io (lt (704, 1, 0, 0) (by decide) rfl (by decide)), io (lt (705, 2, 0, 0) (by decide) rfl (by decide)), io (lt (706, 3, 0, 0) (by decide) rfl (by decide)), ⟨io (lt (707, 4, 0, 0) (by decide) rfl (by decide)), gx 708⟩, ⟨io (lt (710, 5, 0, 0) (by decide) rfl (by decide)), gx 711⟩, ?_, ?_⟩, ⟨?_, ?_, ?_, ?_, ?_, ?_, ?_, ?_⟩, aw0⟩
  · by_cases c : a < x
    · have := hk0 a c
      rw [(b4 a c).1] at ha
      omega
    · by_cases c2 : a < x + 58
      · omega
      · have := b5 a (by omega)
        omega
  · have := b10 l d hd
    rw [s3.1] at this
    cases this
    omega
  · exact ⟨[], fun _ _ => 0, lt (719, 10, 0, 0) (by decide) rfl (by decide), (fun _ _ _ h => nomatch h), rfl, (fun _ _ _ _ _ _ h => nomatch h), (fun _ _ _ h => nomatch h)⟩
  · refine ⟨gx 709, gx 712, gx 715, (fun _ _ h => nomatch h), fun i _ => b9 _ _ (by omega), fun i _ => ?_, gx 721, gx 722, gx 713⟩
    rw [b8 _ _ (by omega), if_pos rfl]
    rfl
  · exact ⟨hk, fun q hq => ⟨(hm q hq).1, (hm q hq).2.1, (hm q hq).2.2.1 ((by decide : ∀ q ∈ mtab, 20 ≤ q.2.2.1) q hq)⟩⟩
  · exact ⟨(gm 768).trans (by decide), Nat.zero_le _, (fun _ _ h => nomatch h), fun e _ _ => ⟨zi 1 e, zi 4 e, zi 19 _, zi 20 e⟩⟩
  · exact ⟨(gm 773).trans (by decide), Nat.zero_le _, (fun _ _ h => nomatch h), fun e _ _ => ⟨zi 5 e, zi 10 e, zi 19 e⟩⟩
  · exact ⟨(gm 784).trans (by decide), Nat.zero_le _, (fun _ _ h => nomatch h), fun e _ _ => zi 15 e⟩
  · exact ⟨(gm 793).trans (by decide), Nat.zero_le _, (fun _ _ h => nomatch h)⟩
  · exact ⟨(gm 791).trans (by decide), Nat.zero_le _, (fun _ _ h => nomatch h)⟩
  · exact ⟨(gm 813).trans (by decide), Nat.zero_le _, (fun _ _ h => nomatch h)⟩
  · exact ⟨(gm 794).trans (by decide), (gm 792).trans (by decide), (gm 798).trans (by decide), (fun _ _ h => nomatch h), fun i _ => zj 28 i, ⟨(gm 807).trans (by decide), (gm 808).trans (by decide), (gm 809).trans (by decide), (gm 810).trans (by decide), (gm 811).trans (by decide)⟩, (gm 790).trans (by decide), (gm 828).trans (by decide)⟩
theorem pure_ok (h b cs wi no de mi L : Nat) (xs : Nat → Int32) (ap : Apart h b cs wi no de) (hL : L ≤ 4096) : PureOK (M00 h b cs wi no de mi L xs) b := by
  obtain ⟨p1, p2, p3, p4, p5, p6, p7, p8, p9, p10, p11, p12, p13, p14, p15⟩ := ap
  have k0 : ∀ a, kd (M00 h b cs wi no de mi L xs) a = if a = b ∨ a = cs ∨ a = wi then 30 else if a = no then 31 else if a = de then 33 else 99 := fun _ => rfl
  have n0 : ∀ a, ln (M00 h b cs wi no de mi L xs) a = if a = b then L else if a = cs then 7 else if a = wi then 12 else 0 := fun _ => rfl
  have i0 : ∀ a, aI (M00 h b cs wi no de mi L xs) a = if a = b then xs else if a = cs then csv else if a = wi then wiv else fun _ => 0 := fun _ => rfl
  have t0 : mT (M00 h b cs wi no de mi L xs) = h := rfl
  have m0 : mS (M00 h b cs wi no de mi L xs) = 0 := rfl
  have bb0 : BB h 0 0 (fun _ => 0) (fun _ => 0) (M00 h b cs wi no de mi L xs) (M00 h b cs wi no de mi L xs) := by
    refine ⟨⟨rfl, Nat.le_refl _, rfl⟩, fun a _ => ⟨rfl, rfl, rfl⟩, fun a ha => ?_, fun a => ?_, fun k a _ => ?_, fun a i ha => ?_, fun a i _ => rfl, (fun l d hd => nomatch hd)⟩
    · rw [k0, if_neg (by omega), if_neg (by omega), if_neg (by omega)]
      omega
    · rw [k0]
      split
      · omega
      · split
        · omega
        · split <;> omega
    · split <;> rfl
    · rw [i0, if_neg (by omega), if_neg (by omega), if_neg (by omega)]
      split <;> rfl
  have s0 : sR (M00 h b cs wi no de mi L xs) 0 = some cs ∧ cs < h ∧ kd (M00 h b cs wi no de mi L xs) cs = 30 ∧ ln (M00 h b cs wi no de mi L xs) cs = 7 ∧ aI (M00 h b cs wi no de mi L xs) cs = csv := ⟨rfl, p2, by rw [k0, if_pos (by omega)], by rw [n0, if_neg (by omega), if_pos rfl], by rw [i0, if_neg (by omega), if_pos rfl]⟩
  have s1 : sR (M00 h b cs wi no de mi L xs) 1 = some wi ∧ wi < h ∧ kd (M00 h b cs wi no de mi L xs) wi = 30 ∧ ln (M00 h b cs wi no de mi L xs) wi = 12 ∧ aI (M00 h b cs wi no de mi L xs) wi = wiv := ⟨rfl, p3, by rw [k0, if_pos (by omega)], by rw [n0, if_neg (by omega), if_neg (by omega), if_pos rfl], by rw [i0, if_neg (by omega), if_neg (by omega), if_pos rfl]⟩
  have s2 : sR (M00 h b cs wi no de mi L xs) 2 = some no ∧ no < h ∧ kd (M00 h b cs wi no de mi L xs) no = 31 ∧ ln (M00 h b cs wi no de mi L xs) no = 0 := ⟨rfl, p4, by rw [k0, if_neg (by omega), if_pos rfl], by rw [n0, if_neg (by omega), if_neg (by omega), if_neg (by omega)]⟩
  have s3 : sR (M00 h b cs wi no de mi L xs) 3 = some de ∧ de < h ∧ kd (M00 h b cs wi no de mi L xs) de = 33 ∧ ln (M00 h b cs wi no de mi L xs) de = 0 := ⟨rfl, p5, by rw [k0, if_neg (by omega), if_neg (by omega), if_pos rfl], by rw [n0, if_neg (by omega), if_neg (by omega), if_neg (by omega)]⟩
  have q0 : ∀ a, a < h → 25 ≤ kd (M00 h b cs wi no de mi L xs) a := fun a _ => by
    rw [k0]
    split
    · omega
    · split
      · omega
      · split <;> omega
  have sb : kd (M00 h b cs wi no de mi L xs) b = 30 ∧ ln (M00 h b cs wi no de mi L xs) b = L ∧ aI (M00 h b cs wi no de mi L xs) b = xs := ⟨by rw [k0, if_pos (Or.inl rfl)], by rw [n0, if_pos rfl], by rw [i0, if_pos rfl]⟩
  unfold PureOK
  generalize M00 h b cs wi no de mi L xs = M0 at t0 m0 bb0 s0 s1 s2 s3 q0 sb
  obtain ⟨bb1, -, kx⟩ := bb0.obj (c := 11) (len := 19) (by omega) (fun z => by omega)
  obtain ⟨M2, e72, bb2, hx2, ht2⟩ := c_init bb1 kx
  have e2 := bb2.1.1
  obtain ⟨bb3, gf, km⟩ := bb2.obj (c := 12) (len := 63) (by omega) (fun _ _ => rfl)
  have ht3 := ht2.fr (gf (h + 13)) (by omega) (fun q hq => by
    have : ∀ q ∈ xtab, q.2.1 < 12 := by decide
    have := this q hq
    omega) (fun q hq => Or.inr (by omega)) (by decide)
  have hx3 : kd (nO M2 12 63) h = 11 := by rw [((gf 0).1 h (by omega)).1]; exact hx2
  obtain ⟨M5, e156, bb5, hk5, hx5, hm5, ht5⟩ := m_init bb3 km hx3 ht3
  have inv := inv0 bb5 hk5 hx5 hm5 ht5 s0 s1 s2 s3 q0
  have sc : SC h b L xs M5 := by
    obtain ⟨y1, y2, y3⟩ := bb5.2.1 b p1
    exact ⟨p1, by rw [y1]; exact sb.1, by rw [y2]; exact sb.2.1, by rw [y3]; exact sb.2.2⟩
  obtain ⟨Me, nn, g1, g2, g3, g4⟩ := law_loop hL 512 0 [] [] [] [] [] [] S00 0 0 M5 (by omega) (by omega) inv sc
  have e5 := bb5.1.1
  have m5 := bb5.1.2.1
  have g4 : nn + 64 * 0 ≤ 64 * (668 + 512) := g4
  refine ⟨Me, ?_, by omega, by omega⟩
  show ex 231 4 [pR (some b)] M0 = _
  have kx' : kd (nO M0 11 19) (mT M0) = 11 := by rw [t0]; exact kx
  rw [tL_law]
  refine bd_i (rd_i rfl kx' (clV_i (M1 := M2) (by rw [t0]; exact e72) (bd_i (rd_i rfl (by rw [e2]; exact km) (clV_i (M1 := M5) (by rw [e2]; exact e156) ?_)))))
  rw [e2, t0]
  exact g1
end ST
