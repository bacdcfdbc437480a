/-! THE START: both constructors (printed by wip/whole/gen/gen_start.py) -/
section ST
variable {x n s : Nat} {cz ca : Nat → Int32} {M0 M M' : Mem}
/-- what stands while it is built -/
def BB (x n s : Nat) (cz ca : Nat → Int32) (M0 M : Mem) : Prop := (mT M = x + n ∧ mS M ≤ mS M0 + s ∧ sR M = sR M0) ∧ (∀ a, a < x → kd M a = kd M0 a ∧ ln M a = ln M0 a ∧ aI M a = aI M0 a) ∧ (∀ a, x + n ≤ a → 25 ≤ kd M a) ∧ (∀ a, kd M a ≠ 23) ∧ (∀ k a, x ≤ a → gI M k a = if a = x + 12 then cz k else 0) ∧ (∀ a i, x ≤ a → aI M a i = if a = x + 9 then ca i else 0) ∧ (∀ a i, x ≤ a → aJ M a i = 0) ∧ ∀ l d, gR M 1 l = some d → sR M0 3 = some d
def TB (M0 : Mem) (o : Nat) (tab : List (Nat × Nat × Nat × Nat)) (M : Mem) : Prop := ∀ q ∈ tab, gR M q.1 o = some (o + q.2.1) ∧ kd M (o + q.2.1) = q.2.2.1 ∧ (20 ≤ q.2.2.1 → ln M (o + q.2.1) = q.2.2.2) ∧ (q.2.2.1 = 0 → gR M 1 (o + q.2.1) = sR M0 3)
def GF (key o : Nat) (M M' : Mem) : Prop := (∀ a, a < mT M → kd M' a = kd M a ∧ ln M' a = ln M a) ∧ ∀ k a, a < mT M → (k ≠ key ∨ a ≠ o) → gR M' k a = gR M k a
theorem TB.fr {o o' key : Nat} {tab : List (Nat × Nat × Nat × Nat)} (h : TB M0 o' tab M) (g : GF key o M M') (ho : o' < mT M) (hl : ∀ q ∈ tab, o' + q.2.1 < mT M) (hk : ∀ q ∈ tab, q.1 ≠ key ∨ o' ≠ o) (h1 : key ≠ 1) : TB M0 o' tab M' := fun q hq => by
  obtain ⟨y1, y2, y3, y4⟩ := h q hq
  have hlt := hl q hq
  refine ⟨?_, ?_, fun z => ?_, fun z => ?_⟩
  · rw [g.2 _ _ ho (hk q hq)]; exact y1
  · rw [(g.1 _ hlt).1]; exact y2
  · rw [(g.1 _ hlt).2]; exact y3 z
  · rw [g.2 _ _ hlt (Or.inl (fun w => h1 w.symm))]; exact y4 z
/-- a new row -/
theorem BB.arr {o key c len : Nat} (h : BB x n s cz ca M0 M) (ho : o < mT M) (hc : c ≤ 22 ∧ 20 ≤ c) (h1 : key ≠ 1) (h9 : n = 9 → ca = fun _ => 0) : BB x (n + 1) (s + len) cz ca M0 (sF (nA M c len) key o (some (mT M))) ∧ GF key o M (sF (nA M c len) key o (some (mT M))) ∧ gR (sF (nA M c len) key o (some (mT M))) key o = some (x + n) ∧ kd (sF (nA M c len) key o (some (mT M))) (x + n) = c ∧ ln (sF (nA M c len) key o (some (mT M))) (x + n) = len := by
  obtain ⟨⟨b1, b2, b3⟩, b4, b5, b6, b7, b8, b9, b10⟩ := h
  refine ⟨⟨⟨?_, ?_, ?_⟩, fun a ha => ?_, fun a ha => ?_, fun a => ?_, fun k a ha => ?_, fun a i ha => ?_, fun a i ha => ?_, fun l d hd => ?_⟩, ⟨fun a ha => ⟨?_, ?_⟩, fun k a ha hk => ?_⟩, ?_, ?_, ?_⟩
  · rw [mT_sF, mT_nA, b1]; omega
  · rw [mS_sF, mS_nA]; omega
  · rw [sR_sF, sR_nA, b3]
  · rw [kd_sF, kd_nA, up1_no (by omega), ln_sF, ln_nA, up1_no (by omega), aI_sF, aI_nA, up1_no (by omega)]
    exact b4 a ha
  · rw [kd_sF, kd_nA, up1_no (by omega)]
    exact b5 a (by omega)
  · rw [kd_sF, kd_nA]
    by_cases z : a = mT M
    · rw [z, up1_at]; omega
    · rw [up1_no z]; exact b6 a
  · rw [gI_sF, gI_nA]; exact b7 k a ha
  · rw [aI_sF, aI_nA]
    by_cases z : a = mT M
    · rw [z, up1_at]
      by_cases w : n = 9
      · rw [h9 w]
        split <;> rfl
      · rw [if_neg (by omega)]
    · rw [up1_no z]; exact b8 a i ha
  · rw [aJ_sF, aJ_nA]
    by_cases z : a = mT M
    · rw [z, up1_at]
    · rw [up1_no z]; exact b9 a i ha
  · rw [gR_sF, gR_nA, up2_ne (fun z => h1 z.symm)] at hd
    exact b10 l d hd
  · rw [kd_sF, kd_nA, up1_no (by omega)]
  · rw [ln_sF, ln_nA, up1_no (by omega)]
  · rw [gR_sF, gR_nA]
    rcases hk with hk | hk
    · rw [up2_ne hk]
    · rw [up2_no hk]
  · rw [gR_sF, up2_at, b1]
  · rw [kd_sF, kd_nA, ← b1, up1_at]
  · rw [ln_sF, ln_nA, ← b1, up1_at]
/-- a new list -/
theorem BB.lst {o key : Nat} (h : BB x n s cz ca M0 M) (ho : o < mT M) (h1 : key ≠ 1) (hn12 : x + n ≠ x + 12) : BB x (n + 1) (s + 3) cz ca M0 (sF (sF (sI (nO M 0 3) 0 (mT M) 0) 1 (mT M) (sR M 3)) key o (some (mT M))) ∧ GF key o M (sF (sF (sI (nO M 0 3) 0 (mT M) 0) 1 (mT M) (sR M 3)) key o (some (mT M))) ∧ gR (sF (sF (sI (nO M 0 3) 0 (mT M) 0) 1 (mT M) (sR M 3)) key o (some (mT M))) key o = some (x + n) ∧ kd (sF (sF (sI (nO M 0 3) 0 (mT M) 0) 1 (mT M) (sR M 3)) key o (some (mT M))) (x + n) = 0 ∧ gR (sF (sF (sI (nO M 0 3) 0 (mT M) 0) 1 (mT M) (sR M 3)) key o (some (mT M))) 1 (x + n) = sR M0 3 := by
  obtain ⟨⟨b1, b2, b3⟩, b4, b5, b6, b7, b8, b9, b10⟩ := h
  have gk : gR (sF (sF (sI (nO M 0 3) 0 (mT M) 0) 1 (mT M) (sR M 3)) key o (some (mT M))) = up2 (up2 (clr (gR M) (mT M) none) 1 (mT M) (sR M 3)) key o (some (mT M)) := rfl
  have kk : kd (sF (sF (sI (nO M 0 3) 0 (mT M) 0) 1 (mT M) (sR M 3)) key o (some (mT M))) = up1 (kd M) (mT M) 0 := rfl
  refine ⟨⟨⟨?_, ?_, ?_⟩, fun a ha => ?_, fun a ha => ?_, fun a => ?_, fun k a ha => ?_, fun a i ha => ?_, fun a i ha => ?_, fun l d hd => ?_⟩, ⟨fun a ha => ⟨?_, ?_⟩, fun k a ha hk => ?_⟩, ?_, ?_, ?_⟩
  · show mT M + 1 = _
    omega
  · show mS M + 3 ≤ _
    omega
  · exact b3
  · rw [kk, up1_no (by omega)]
    exact b4 a ha
  · rw [kk, up1_no (by omega)]
    exact b5 a (by omega)
  · rw [kk]
    by_cases z : a = mT M
    · rw [z, up1_at]; omega
    · rw [up1_no z]; exact b6 a
  · have gi : gI (sF (sF (sI (nO M 0 3) 0 (mT M) 0) 1 (mT M) (sR M 3)) key o (some (mT M))) = up2 (clr (gI M) (mT M) 0) 0 (mT M) 0 := rfl
    rw [gi]
    by_cases z : a = mT M
    · rw [if_neg (by omega)]
      show (if k = 0 ∧ a = mT M then (0 : Int32) else if a = mT M then 0 else gI M k a) = 0
      rw [if_pos z]
      split <;> rfl
    · rw [up2_no z, clr_no z]; exact b7 k a ha
  · exact b8 a i ha
  · exact b9 a i ha
  · rw [gk, up2_ne (fun z => h1 z.symm)] at hd
    by_cases z : l = mT M
    · rw [z, up2_at, b3] at hd
      exact hd
    · rw [up2_no z, clr_no z] at hd
      exact b10 l d hd
  · rw [kk, up1_no (by omega)]
  · rfl
  · rw [gk]
    have z : a ≠ mT M := by omega
    rcases hk with hk | hk
    · rw [up2_ne hk, up2_no z, clr_no z]
    · rw [up2_no hk, up2_no z, clr_no z]
  · rw [gk, up2_at, b1]
  · rw [kk, ← b1, up1_at]
  · rw [gk, up2_ne (fun z => h1 z.symm), ← b1, up2_at, b3]
theorem BB.int {key : Nat} {v : Int32} (h : BB x n s cz ca M0 M) : BB x n s (up1 cz key v) ca M0 (sI M key (x + 12) v) := by
  obtain ⟨b1, b4, b5, b6, b7, b8, b9, b10⟩ := h
  refine ⟨b1, b4, b5, b6, fun k a ha => ?_, b8, b9, b10⟩
  rw [gI_sI]
  show (if k = key ∧ a = x + 12 then v else gI M k a) = if a = x + 12 then (if k = key then v else cz k) else 0
  by_cases z : a = x + 12
  · by_cases w : k = key
    · rw [if_pos ⟨w, z⟩, if_pos z, if_pos w]
    · rw [if_neg (fun q => w q.1), if_pos z, if_neg w, b7 k a ha, if_pos z]
  · rw [if_neg (fun q => z q.2), if_neg z, b7 k a ha, if_neg z]
theorem ex11 {l : Nat} (hk : kd M l = 0) : ex 11 1 [pR (some l)] M = some (none, sF (sI M 0 l 0) 1 l (sR M 3)) := by
  rw [tJx4a65c_init_da8c8]
  refine rd_i rfl hk (clV_i (M1 := sI M 0 l 0) ?_ (rd_i rfl (by rw [kd_sI]; exact hk) (bd_i (by rw [sR_sI]))))
  rw [tJxc12de_init_da8c8]
  refine rd_i rfl hk (clV_i (M1 := M) ?_ (rd_i rfl hk (bd_i rfl)))
  rw [tJxa1e45_init_da8c8]
  exact nn_i rfl rfl
/-- one step: a row -/
theorem st_arr {Fin : Mem → Prop} {o j key c len k0 : Nat} {li : Int32} {tab xt : List (Nat × Nat × Nat × Nat)} {REST : Mem → Option Rt} (hb : BB x n s cz ca M0 M) (hk : kd M o = k0) (hx : kd M x = 11) (ht : TB M0 o tab M) (hxt : TB M0 x xt M) (hon : x + n = o + j) (ho : o < x + n ∧ x < x + n) (hd : ∀ q ∈ tab, q.1 ≠ key ∧ q.2.1 < j) (hdx : ∀ q ∈ xt, q.2.1 < n ∧ x ≠ o) (hc : c ≤ 22 ∧ 20 ≤ c) (h1 : key ≠ 1) (h9 : n = 9 → ca = fun _ => 0) (h2 : ¬ li < 0 ∧ li.toNatClampNeg ≤ 60000000) (h3 : li.toNatClampNeg = len) (k : ∀ M', BB x (n + 1) (s + len) cz ca M0 M' → kd M' o = k0 → kd M' x = 11 → TB M0 o ((key, j, c, len) :: tab) M' → TB M0 x xt M' → ∃ Mz, REST M' = some (none, Mz) ∧ Fin Mz) : ∃ Mz, (gd (¬ li < 0 ∧ li.toNatClampNeg ≤ 60000000) (bd (nA M c li.toNatClampNeg) fun M2 => rd (some o) k0 M2 fun a3 => bd (sF M2 key a3 (some (mT M))) fun M4 => REST M4)) = some (none, Mz) ∧ Fin Mz := by
  have e1 := hb.1.1
  obtain ⟨g1, g2, g3, g4, g5⟩ := hb.arr (o := o) (key := key) (c := c) (len := len) (by omega) hc h1 h9
  have hk' : kd (nA M c len) o = k0 := by rw [kd_nA, up1_no (by omega)]; exact hk
  have t1 : TB M0 o tab (sF (nA M c len) key o (some (mT M))) := ht.fr g2 (by omega) (fun q hq => by have := (hd q hq).2; omega) (fun q hq => Or.inl (hd q hq).1) h1
  have t2 : TB M0 x xt (sF (nA M c len) key o (some (mT M))) := hxt.fr g2 (by omega) (fun q hq => by have := (hdx q hq).1; omega) (fun q hq => Or.inr (hdx q hq).2) h1
  obtain ⟨Mz, z1, z2⟩ := k _ g1 (by rw [(g2.1 o (by omega)).1]; exact hk) (by rw [(g2.1 x (by omega)).1]; exact hx) (fun q hq => by
    rcases List.mem_cons.mp hq with z | z
    · rw [z]
      exact ⟨by rw [g3, hon], by rw [← hon]; exact g4, fun _ => by rw [← hon]; exact g5, fun w => by have w : c = 0 := w; omega⟩
    · exact t1 q z) t2
  refine ⟨Mz, gd_i h2 (bd_i ?_), z2⟩
  rw [h3]
  exact rd_i rfl hk' (bd_i z1)
/-- one step: a list -/
theorem st_lst {Fin : Mem → Prop} {key : Nat} {tab : List (Nat × Nat × Nat × Nat)} {REST : Mem → Option Rt} (hb : BB x n s cz ca M0 M) (hx : kd M x = 11) (ht : TB M0 x tab M) (h0 : 0 < n ∧ n ≠ 12) (hd : ∀ q ∈ tab, q.1 ≠ key ∧ q.2.1 < n) (h1 : key ≠ 1) (k : ∀ M', BB x (n + 1) (s + 3) cz ca M0 M' → kd M' x = 11 → TB M0 x ((key, n, 0, 0) :: tab) M' → ∃ Mz, REST M' = some (none, Mz) ∧ Fin Mz) : ∃ Mz, (bd (nO M 0 3) fun M2 => rd (some (mT M)) 0 M2 fun a4 => clV (ex 11 1 [pR (some a4)] M2) fun M3 => rd (some x) 11 M3 fun a5 => bd (sF M3 key a5 (some (mT M))) fun M6 => REST M6) = some (none, Mz) ∧ Fin Mz := by
  have e1 := hb.1.1
  obtain ⟨g1, g2, g3, g4, g5⟩ := hb.lst (o := x) (key := key) (by omega) h1 (by omega)
  have k0 : kd (nO M 0 3) (mT M) = 0 := by rw [kd_nO, up1_at]
  have hk' : kd (sF (sI (nO M 0 3) 0 (mT M) 0) 1 (mT M) (sR (nO M 0 3) 3)) x = 11 := by rw [kd_sF, kd_sI, kd_nO, up1_no (by omega)]; exact hx
  have t1 := ht.fr g2 (by omega) (fun q hq => by have := (hd q hq).2; omega) (fun q hq => Or.inl (hd q hq).1) h1
  obtain ⟨Mz, z1, z2⟩ := k _ g1 (by rw [(g2.1 x (by omega)).1]; exact hx) (fun q hq => by
    rcases List.mem_cons.mp hq with z | z
    · rw [z]
      exact ⟨g3, g4, fun w => by have w : 20 ≤ 0 := w; omega, fun _ => g5⟩
    · exact t1 q z)
  exact ⟨Mz, bd_i (rd_i rfl k0 (clV_i (ex11 k0) (rd_i rfl hk' (bd_i z1)))), z2⟩
/-- one step: an int of the model -/
theorem st_int {Fin : Mem → Prop} {key : Nat} {v : Int32} {tab xt : List (Nat × Nat × Nat × Nat)} {REST : Mem → Option Rt} (hb : BB x n s cz ca M0 M) (hk : kd M (x + 12) = 12) (hx : kd M x = 11) (ht : TB M0 (x + 12) tab M) (hxt : TB M0 x xt M) (k : ∀ M', BB x n s (up1 cz key v) ca M0 M' → kd M' (x + 12) = 12 → kd M' x = 11 → TB M0 (x + 12) tab M' → TB M0 x xt M' → ∃ Mz, REST M' = some (none, Mz) ∧ Fin Mz) : ∃ Mz, (rd (some (x + 12)) 12 M fun a89 => bd (sI M key a89 v) fun M90 => REST M90) = some (none, Mz) ∧ Fin Mz := by
  obtain ⟨Mz, z1, z2⟩ := k (sI M key (x + 12) v) hb.int hk hx ht hxt
  exact ⟨Mz, rd_i rfl hk (bd_i z1), z2⟩
theorem BB.row {j : Nat} {v : Int32} (h : BB x n s cz ca M0 M) : BB x n s cz (up1 ca j v) M0 (wI M (x + 9) j v) := by
  obtain ⟨b1, b4, b5, b6, b7, b8, b9, b10⟩ := h
  refine ⟨b1, fun a ha => ?_, b5, b6, b7, fun a i ha => ?_, b9, b10⟩
  · rw [kd_wI, ln_wI, aI_wI, up1_no (by omega)]
    exact b4 a ha
  · rw [aI_wI]
    by_cases z : a = x + 9
    · rw [z, up1_at, if_pos rfl]
      show (if i = j then v else aI M (x + 9) i) = if i = j then v else ca i
      rw [b8 (x + 9) i (by omega), if_pos rfl]
    · rw [up1_no z, if_neg z, b8 a i ha, if_neg z]
theorem BB.le {s' : Nat} (h : BB x n s cz ca M0 M) (hs : s ≤ s') : BB x n s' cz ca M0 M := ⟨⟨h.1.1, by have := h.1.2.1; omega, h.1.2.2⟩, h.2⟩
theorem sF_wI (N : Mem) (a j k o : Nat) (v : Int32) (r : Option Nat) : sF (wI N a j v) k o r = wI (sF N k o r) a j v := rfl
def cz0 : Nat → Int32 := up1 (up1 (up1 (up1 (up1 (fun _ => 0) 808 (-1)) 809 (-1)) 810 (-1)) 811 (-1)) 790 0
def ca0 : Nat → Int32 := up1 (up1 (up1 (up1 (up1 (fun _ => 0) 0 0) 1 (-1)) 2 (-1)) 3 (-1)) 4 (-1)
/-- one step: the row of the cause -/
theorem st_cau {Fin : Mem → Prop} {tab : List (Nat × Nat × Nat × Nat)} {REST : Mem → Option Rt} (hb : BB x 9 s cz (fun _ => 0) M0 M) (hx : kd M x = 11) (ht : TB M0 x tab M) (hd : ∀ q ∈ tab, q.1 ≠ 718 ∧ q.2.1 < 9) (k : ∀ M', BB x 10 (s + 5) cz ca0 M0 M' → kd M' x = 11 → TB M0 x ((718, 9, 20, 5) :: tab) M' → ∃ Mz, REST M' = some (none, Mz) ∧ Fin Mz) : ∃ Mz, (gd (¬ (5 : Int32) < 0 ∧ (5 : Int32).toNatClampNeg ≤ 60000000) (bd (nA M 20 (5 : Int32).toNatClampNeg) fun M36 => ix 20 20 (some (mT M)) 0 M36 fun a37 j38 => bd (wI M36 a37 j38 0) fun M39 => ix 20 20 (some (mT M)) 1 M39 fun a40 j41 => bd (wI M39 a40 j41 (-1)) fun M42 => ix 20 20 (some (mT M)) 2 M42 fun a43 j44 => bd (wI M42 a43 j44 (-1)) fun M45 => ix 20 20 (some (mT M)) 3 M45 fun a46 j47 => bd (wI M45 a46 j47 (-1)) fun M48 => ix 20 20 (some (mT M)) 4 M48 fun a49 j50 => bd (wI M48 a49 j50 (-1)) fun M51 => rd (some x) 11 M51 fun a52 => bd (sF M51 718 a52 (some (mT M))) fun M53 => REST M53)) = some (none, Mz) ∧ Fin Mz := by
  have e1 := hb.1.1
  obtain ⟨g1, g2, g3, g4, g5⟩ := hb.arr (o := x) (key := 718) (c := 20) (len := 5) (by omega) (by omega) (by decide) (fun _ => rfl)
  have t1 : TB M0 x tab (sF (nA M 20 5) 718 x (some (mT M))) := ht.fr g2 (by omega) (fun q hq => by have := (hd q hq).2; omega) (fun q hq => Or.inl (hd q hq).1) (by decide)
  have t2 : TB M0 x ((718, 9, 20, 5) :: tab) (sF (nA M 20 5) 718 x (some (mT M))) := fun q hq => by
    rcases List.mem_cons.mp hq with z | z
    · rw [z]
      exact ⟨g3, g4, fun _ => g5, fun w => by have w : 20 = 0 := w; omega⟩
    · exact t1 q z
  have kx : kd (sF (nA M 20 5) 718 x (some (mT M))) x = 11 := by rw [(g2.1 x (by omega)).1]; exact hx
  have kA : kd (nA M 20 5) (mT M) = 20 := by rw [kd_nA, up1_at]
  have lA : ln (nA M 20 5) (mT M) = 5 := by rw [ln_nA, up1_at]
  have kX : kd (nA M 20 5) x = 11 := by rw [kd_nA, up1_no (by omega)]; exact hx
  have wk : ∀ (N : Mem) (j : Nat) (v : Int32), kd (wI N (mT M) j v) = kd N := fun N j v => rfl
  have wl : ∀ (N : Mem) (j : Nat) (v : Int32), ln (wI N (mT M) j v) = ln N := fun N j v => rfl
  have h5 := ((((g1.row (j := 0) (v := 0)).row (j := 1) (v := -1)).row (j := 2) (v := -1)).row (j := 3) (v := -1)).row (j := 4) (v := -1)
  have tw : ∀ (N : Mem) (j : Nat) (v : Int32), TB M0 x ((718, 9, 20, 5) :: tab) N → TB M0 x ((718, 9, 20, 5) :: tab) (wI N (x + 9) j v) := fun N j v h => h
  have kw : ∀ (N : Mem) (j : Nat) (v : Int32), kd N x = 11 → kd (wI N (x + 9) j v) x = 11 := fun N j v h => h
  obtain ⟨Mz, z1, z2⟩ := k _ h5 (kw _ _ _ (kw _ _ _ (kw _ _ _ (kw _ _ _ (kw _ _ _ kx))))) (tw _ _ _ (tw _ _ _ (tw _ _ _ (tw _ _ _ (tw _ _ _ t2)))))
  refine ⟨Mz, gd_i (by decide) (bd_i ?_), z2⟩
  rw [show (5 : Int32).toNatClampNeg = 5 from rfl]
  refine ix_i (n := 0) rfl (Or.inl kA) rfl (by rw [lA]; omega) (by omega) (bd_i (ix_i (n := 1) rfl (Or.inl (by rw [wk]; exact kA)) rfl (by rw [wl, lA]; omega) (by omega) (bd_i (ix_i (n := 2) rfl (Or.inl (by rw [wk, wk]; exact kA)) rfl (by rw [wl, wl, lA]; omega) (by omega) (bd_i (ix_i (n := 3) rfl (Or.inl (by rw [wk, wk, wk]; exact kA)) rfl (by rw [wl, wl, wl, lA]; omega) (by omega) (bd_i (ix_i (n := 4) rfl (Or.inl (by rw [wk, wk, wk, wk]; exact kA)) rfl (by rw [wl, wl, wl, wl, lA]; omega) (by omega) (bd_i (rd_i rfl (by rw [wk, wk, wk, wk, wk]; exact kX) (bd_i ?_)))))))))))
  rw [sF_wI, sF_wI, sF_wI, sF_wI, sF_wI]
  rw [← e1] at z1
  exact z1
theorem nn_ex {Fin : Mem → Prop} {a : Nat} {X : Option Rt} (h : ∃ Mz, X = some (none, Mz) ∧ Fin Mz) : ∃ Mz, nn (some a) X = some (none, Mz) ∧ Fin Mz := h
theorem c_init (hb : BB x 1 s (fun _ => 0) (fun _ => 0) M0 M) (hx : kd M x = 11) : ∃ Mz, ex 72 1 [pR (some x)] M = some (none, Mz) ∧ (BB x 12 (s + 200) (fun _ => 0) ca0 M0 Mz ∧ kd Mz x = 11 ∧ TB M0 x xtab Mz) := by
  have ht : TB M0 x [] M := fun _ q => nomatch q
  rw [tX11_init]
  refine nn_ex ?_
  refine st_lst (key := 704) (n := 1) hb hx ht (by omega) (by decide) (by decide) (fun M hb hx ht => ?_)
  refine st_lst (key := 705) (n := 2) hb hx ht (by omega) (by decide) (by decide) (fun M hb hx ht => ?_)
  refine st_lst (key := 706) (n := 3) hb hx ht (by omega) (by decide) (by decide) (fun M hb hx ht => ?_)
  refine st_lst (key := 707) (n := 4) hb hx ht (by omega) (by decide) (by decide) (fun M hb hx ht => ?_)
  refine st_lst (key := 710) (n := 5) hb hx ht (by omega) (by decide) (by decide) (fun M hb hx ht => ?_)
  refine st_arr (o := x) (xt := []) (key := 714) (j := 6) (n := 6) (c := 20) (len := 10) hb hx hx ht (fun _ q => nomatch q) rfl (by omega) (by decide) (fun _ q => nomatch q) (by omega) (by decide) (fun z => absurd z (by decide)) (by decide) rfl (fun M hb _ hx ht _ => ?_)
  refine st_arr (o := x) (xt := []) (key := 716) (j := 7) (n := 7) (c := 21) (len := 6) hb hx hx ht (fun _ q => nomatch q) rfl (by omega) (by decide) (fun _ q => nomatch q) (by omega) (by decide) (fun z => absurd z (by decide)) (by decide) rfl (fun M hb _ hx ht _ => ?_)
  refine st_arr (o := x) (xt := []) (key := 717) (j := 8) (n := 8) (c := 21) (len := 6) hb hx hx ht (fun _ q => nomatch q) rfl (by omega) (by decide) (fun _ q => nomatch q) (by omega) (by decide) (fun z => absurd z (by decide)) (by decide) rfl (fun M hb _ hx ht _ => ?_)
  refine st_cau hb hx ht (by decide) (fun M hb hx ht => ?_)
  refine st_lst (key := 719) (n := 10) hb hx ht (by omega) (by decide) (by decide) (fun M hb hx ht => ?_)
  refine st_arr (o := x) (xt := []) (key := 720) (j := 11) (n := 11) (c := 20) (len := 64) hb hx hx ht (fun _ q => nomatch q) rfl (by omega) (by decide) (fun _ q => nomatch q) (by omega) (by decide) (fun z => absurd z (by decide)) (by decide) rfl (fun M hb _ hx ht _ => ?_)
  exact ⟨M, rfl, hb.le (by omega), hx, fun q hq => ht q ((by decide : ∀ q ∈ xtab, q ∈ _) q hq)⟩
theorem m_init (hb : BB x 13 s (fun _ => 0) ca0 M0 M) (hk : kd M (x + 12) = 12) (hx : kd M x = 11) (hxt : TB M0 x xtab M) : ∃ Mz, ex 156 1 [pR (some (x + 12))] M = some (none, Mz) ∧ (BB x 58 (s + 40000) cz0 ca0 M0 Mz ∧ kd Mz (x + 12) = 12 ∧ kd Mz x = 11 ∧ TB M0 (x + 12) mtab Mz ∧ TB M0 x xtab Mz) := by
  have ht : TB M0 (x + 12) [] M := fun _ q => nomatch q
  have hxl : ∀ q ∈ xtab, ∀ j, q.2.1 < 12 + j := fun q hq j => by
    have : ∀ q ∈ xtab, q.2.1 < 12 := by decide
    have := this q hq
    omega
  rw [tX12_init]
  refine nn_ex ?_
  refine st_arr (o := x + 12) (key := 769) (j := 1) (n := 12 + 1) (c := 20) (len := 4) hb hk hx ht hxt (by omega) (by omega) (by decide) (fun q hq => ⟨hxl q hq 1, by omega⟩) (by omega) (by decide) (fun z => absurd z (by decide)) (by decide) rfl (fun M hb hk hx ht hxt => ?_)
  refine st_arr (o := x + 12) (key := 770) (j := 2) (n := 12 + 2) (c := 21) (len := 32) hb hk hx ht hxt (by omega) (by omega) (by decide) (fun q hq => ⟨hxl q hq 2, by omega⟩) (by omega) (by decide) (fun z => absurd z (by decide)) (by decide) rfl (fun M hb hk hx ht hxt => ?_)
  refine st_arr (o := x + 12) (key := 771) (j := 3) (n := 12 + 3) (c := 22) (len := 32) hb hk hx ht hxt (by omega) (by omega) (by decide) (fun q hq => ⟨hxl q hq 3, by omega⟩) (by omega) (by decide) (fun z => absurd z (by decide)) (by decide) rfl (fun M hb hk hx ht hxt => ?_)
  refine st_arr (o := x + 12) (key := 772) (j := 4) (n := 12 + 4) (c := 22) (len := 4) hb hk hx ht hxt (by omega) (by omega) (by decide) (fun q hq => ⟨hxl q hq 4, by omega⟩) (by omega) (by decide) (fun z => absurd z (by decide)) (by decide) rfl (fun M hb hk hx ht hxt => ?_)
  refine st_arr (o := x + 12) (key := 774) (j := 5) (n := 12 + 5) (c := 20) (len := 6) hb hk hx ht hxt (by omega) (by omega) (by decide) (fun q hq => ⟨hxl q hq 5, by omega⟩) (by omega) (by decide) (fun z => absurd z (by decide)) (by decide) rfl (fun M hb hk hx ht hxt => ?_)
  refine st_arr (o := x + 12) (key := 775) (j := 6) (n := 12 + 6) (c := 21) (len := 36) hb hk hx ht hxt (by omega) (by omega) (by decide) (fun q hq => ⟨hxl q hq 6, by omega⟩) (by omega) (by decide) (fun z => absurd z (by decide)) (by decide) rfl (fun M hb hk hx ht hxt => ?_)
  refine st_arr (o := x + 12) (key := 776) (j := 7) (n := 12 + 7) (c := 20) (len := 36) hb hk hx ht hxt (by omega) (by omega) (by decide) (fun q hq => ⟨hxl q hq 7, by omega⟩) (by omega) (by decide) (fun z => absurd z (by decide)) (by decide) rfl (fun M hb hk hx ht hxt => ?_)
  refine st_arr (o := x + 12) (key := 777) (j := 8) (n := 12 + 8) (c := 20) (len := 36) hb hk hx ht hxt (by omega) (by omega) (by decide) (fun q hq => ⟨hxl q hq 8, by omega⟩) (by omega) (by decide) (fun z => absurd z (by decide)) (by decide) rfl (fun M hb hk hx ht hxt => ?_)
  refine st_arr (o := x + 12) (key := 778) (j := 9) (n := 12 + 9) (c := 21) (len := 36) hb hk hx ht hxt (by omega) (by omega) (by decide) (fun q hq => ⟨hxl q hq 9, by omega⟩) (by omega) (by decide) (fun z => absurd z (by decide)) (by decide) rfl (fun M hb hk hx ht hxt => ?_)
  refine st_arr (o := x + 12) (key := 779) (j := 10) (n := 12 + 10) (c := 20) (len := 6) hb hk hx ht hxt (by omega) (by omega) (by decide) (fun q hq => ⟨hxl q hq 10, by omega⟩) (by omega) (by decide) (fun z => absurd z (by decide)) (by decide) rfl (fun M hb hk hx ht hxt => ?_)
  refine st_arr (o := x + 12) (key := 780) (j := 11) (n := 12 + 11) (c := 20) (len := 24) hb hk hx ht hxt (by omega) (by omega) (by decide) (fun q hq => ⟨hxl q hq 11, by omega⟩) (by omega) (by decide) (fun z => absurd z (by decide)) (by decide) rfl (fun M hb hk hx ht hxt => ?_)
  refine st_arr (o := x + 12) (key := 781) (j := 12) (n := 12 + 12) (c := 20) (len := 24) hb hk hx ht hxt (by omega) (by omega) (by decide) (fun q hq => ⟨hxl q hq 12, by omega⟩) (by omega) (by decide) (fun z => absurd z (by decide)) (by decide) rfl (fun M hb hk hx ht hxt => ?_)
  refine st_arr (o := x + 12) (key := 782) (j := 13) (n := 12 + 13) (c := 21) (len := 24) hb hk hx ht hxt (by omega) (by omega) (by decide) (fun q hq => ⟨hxl q hq 13, by omega⟩) (by omega) (by decide) (fun z => absurd z (by decide)) (by decide) rfl (fun M hb hk hx ht hxt => ?_)
  refine st_arr (o := x + 12) (key := 783) (j := 14) (n := 12 + 14) (c := 21) (len := 24) hb hk hx ht hxt (by omega) (by omega) (by decide) (fun q hq => ⟨hxl q hq 14, by omega⟩) (by omega) (by decide) (fun z => absurd z (by decide)) (by decide) rfl (fun M hb hk hx ht hxt => ?_)
  refine st_arr (o := x + 12) (key := 785) (j := 15) (n := 12 + 15) (c := 20) (len := 3) hb hk hx ht hxt (by omega) (by omega) (by decide) (fun q hq => ⟨hxl q hq 15, by omega⟩) (by omega) (by decide) (fun z => absurd z (by decide)) (by decide) rfl (fun M hb hk hx ht hxt => ?_)
  refine st_arr (o := x + 12) (key := 786) (j := 16) (n := 12 + 16) (c := 20) (len := 12) hb hk hx ht hxt (by omega) (by omega) (by decide) (fun q hq => ⟨hxl q hq 16, by omega⟩) (by omega) (by decide) (fun z => absurd z (by decide)) (by decide) rfl (fun M hb hk hx ht hxt => ?_)
  refine st_arr (o := x + 12) (key := 787) (j := 17) (n := 12 + 17) (c := 20) (len := 6) hb hk hx ht hxt (by omega) (by omega) (by decide) (fun q hq => ⟨hxl q hq 17, by omega⟩) (by omega) (by decide) (fun z => absurd z (by decide)) (by decide) rfl (fun M hb hk hx ht hxt => ?_)
  refine st_arr (o := x + 12) (key := 789) (j := 18) (n := 12 + 18) (c := 20) (len := 40) hb hk hx ht hxt (by omega) (by omega) (by decide) (fun q hq => ⟨hxl q hq 18, by omega⟩) (by omega) (by decide) (fun z => absurd z (by decide)) (by decide) rfl (fun M hb hk hx ht hxt => ?_)
  refine st_arr (o := x + 12) (key := 795) (j := 19) (n := 12 + 19) (c := 22) (len := 14) hb hk hx ht hxt (by omega) (by omega) (by decide) (fun q hq => ⟨hxl q hq 19, by omega⟩) (by omega) (by decide) (fun z => absurd z (by decide)) (by decide) rfl (fun M hb hk hx ht hxt => ?_)
  refine st_arr (o := x + 12) (key := 796) (j := 20) (n := 12 + 20) (c := 22) (len := 4) hb hk hx ht hxt (by omega) (by omega) (by decide) (fun q hq => ⟨hxl q hq 20, by omega⟩) (by omega) (by decide) (fun z => absurd z (by decide)) (by decide) rfl (fun M hb hk hx ht hxt => ?_)
  refine st_arr (o := x + 12) (key := 797) (j := 21) (n := 12 + 21) (c := 20) (len := 10) hb hk hx ht hxt (by omega) (by omega) (by decide) (fun q hq => ⟨hxl q hq 21, by omega⟩) (by omega) (by decide) (fun z => absurd z (by decide)) (by decide) rfl (fun M hb hk hx ht hxt => ?_)
  refine st_arr (o := x + 12) (key := 799) (j := 22) (n := 12 + 22) (c := 20) (len := 440) hb hk hx ht hxt (by omega) (by omega) (by decide) (fun q hq => ⟨hxl q hq 22, by omega⟩) (by omega) (by decide) (fun z => absurd z (by decide)) (by decide) rfl (fun M hb hk hx ht hxt => ?_)
  refine st_arr (o := x + 12) (key := 800) (j := 23) (n := 12 + 23) (c := 20) (len := 440) hb hk hx ht hxt (by omega) (by omega) (by decide) (fun q hq => ⟨hxl q hq 23, by omega⟩) (by omega) (by decide) (fun z => absurd z (by decide)) (by decide) rfl (fun M hb hk hx ht hxt => ?_)
  refine st_arr (o := x + 12) (key := 801) (j := 24) (n := 12 + 24) (c := 21) (len := 7040) hb hk hx ht hxt (by omega) (by omega) (by decide) (fun q hq => ⟨hxl q hq 24, by omega⟩) (by omega) (by decide) (fun z => absurd z (by decide)) (by decide) rfl (fun M hb hk hx ht hxt => ?_)
  refine st_arr (o := x + 12) (key := 802) (j := 25) (n := 12 + 25) (c := 20) (len := 164) hb hk hx ht hxt (by omega) (by omega) (by decide) (fun q hq => ⟨hxl q hq 25, by omega⟩) (by omega) (by decide) (fun z => absurd z (by decide)) (by decide) rfl (fun M hb hk hx ht hxt => ?_)
  refine st_arr (o := x + 12) (key := 803) (j := 26) (n := 12 + 26) (c := 21) (len := 984) hb hk hx ht hxt (by omega) (by omega) (by decide) (fun q hq => ⟨hxl q hq 26, by omega⟩) (by omega) (by decide) (fun z => absurd z (by decide)) (by decide) rfl (fun M hb hk hx ht hxt => ?_)
  refine st_arr (o := x + 12) (key := 804) (j := 27) (n := 12 + 27) (c := 20) (len := 164) hb hk hx ht hxt (by omega) (by omega) (by decide) (fun q hq => ⟨hxl q hq 27, by omega⟩) (by omega) (by decide) (fun z => absurd z (by decide)) (by decide) rfl (fun M hb hk hx ht hxt => ?_)
  refine st_arr (o := x + 12) (key := 805) (j := 28) (n := 12 + 28) (c := 21) (len := 6) hb hk hx ht hxt (by omega) (by omega) (by decide) (fun q hq => ⟨hxl q hq 28, by omega⟩) (by omega) (by decide) (fun z => absurd z (by decide)) (by decide) rfl (fun M hb hk hx ht hxt => ?_)
  refine st_arr (o := x + 12) (key := 806) (j := 29) (n := 12 + 29) (c := 21) (len := 6) hb hk hx ht hxt (by omega) (by omega) (by decide) (fun q hq => ⟨hxl q hq 29, by omega⟩) (by omega) (by decide) (fun z => absurd z (by decide)) (by decide) rfl (fun M hb hk hx ht hxt => ?_)
  refine st_int (key := 808) hb hk hx ht hxt (fun M hb hk hx ht hxt => ?_)
  refine st_int (key := 809) hb hk hx ht hxt (fun M hb hk hx ht hxt => ?_)
  refine st_int (key := 810) hb hk hx ht hxt (fun M hb hk hx ht hxt => ?_)
  refine st_int (key := 811) hb hk hx ht hxt (fun M hb hk hx ht hxt => ?_)
  refine st_arr (o := x + 12) (key := 812) (j := 30) (n := 12 + 30) (c := 20) (len := 164) hb hk hx ht hxt (by omega) (by omega) (by decide) (fun q hq => ⟨hxl q hq 30, by omega⟩) (by omega) (by decide) (fun z => absurd z (by decide)) (by decide) rfl (fun M hb hk hx ht hxt => ?_)
  refine st_arr (o := x + 12) (key := 814) (j := 31) (n := 12 + 31) (c := 20) (len := 64) hb hk hx ht hxt (by omega) (by omega) (by decide) (fun q hq => ⟨hxl q hq 31, by omega⟩) (by omega) (by decide) (fun z => absurd z (by decide)) (by decide) rfl (fun M hb hk hx ht hxt => ?_)
  refine st_arr (o := x + 12) (key := 815) (j := 32) (n := 12 + 32) (c := 20) (len := 64) hb hk hx ht hxt (by omega) (by omega) (by decide) (fun q hq => ⟨hxl q hq 32, by omega⟩) (by omega) (by decide) (fun z => absurd z (by decide)) (by decide) rfl (fun M hb hk hx ht hxt => ?_)
  refine st_arr (o := x + 12) (key := 816) (j := 33) (n := 12 + 33) (c := 20) (len := 64) hb hk hx ht hxt (by omega) (by omega) (by decide) (fun q hq => ⟨hxl q hq 33, by omega⟩) (by omega) (by decide) (fun z => absurd z (by decide)) (by decide) rfl (fun M hb hk hx ht hxt => ?_)
  refine st_arr (o := x + 12) (key := 817) (j := 34) (n := 12 + 34) (c := 21) (len := 384) hb hk hx ht hxt (by omega) (by omega) (by decide) (fun q hq => ⟨hxl q hq 34, by omega⟩) (by omega) (by decide) (fun z => absurd z (by decide)) (by decide) rfl (fun M hb hk hx ht hxt => ?_)
  refine st_arr (o := x + 12) (key := 818) (j := 35) (n := 12 + 35) (c := 20) (len := 384) hb hk hx ht hxt (by omega) (by omega) (by decide) (fun q hq => ⟨hxl q hq 35, by omega⟩) (by omega) (by decide) (fun z => absurd z (by decide)) (by decide) rfl (fun M hb hk hx ht hxt => ?_)
  refine st_arr (o := x + 12) (key := 819) (j := 36) (n := 12 + 36) (c := 20) (len := 384) hb hk hx ht hxt (by omega) (by omega) (by decide) (fun q hq => ⟨hxl q hq 36, by omega⟩) (by omega) (by decide) (fun z => absurd z (by decide)) (by decide) rfl (fun M hb hk hx ht hxt => ?_)
  refine st_arr (o := x + 12) (key := 820) (j := 37) (n := 12 + 37) (c := 21) (len := 384) hb hk hx ht hxt (by omega) (by omega) (by decide) (fun q hq => ⟨hxl q hq 37, by omega⟩) (by omega) (by decide) (fun z => absurd z (by decide)) (by decide) rfl (fun M hb hk hx ht hxt => ?_)
  refine st_arr (o := x + 12) (key := 821) (j := 38) (n := 12 + 38) (c := 21) (len := 6144) hb hk hx ht hxt (by omega) (by omega) (by decide) (fun q hq => ⟨hxl q hq 38, by omega⟩) (by omega) (by decide) (fun z => absurd z (by decide)) (by decide) rfl (fun M hb hk hx ht hxt => ?_)
  refine st_arr (o := x + 12) (key := 822) (j := 39) (n := 12 + 39) (c := 20) (len := 384) hb hk hx ht hxt (by omega) (by omega) (by decide) (fun q hq => ⟨hxl q hq 39, by omega⟩) (by omega) (by decide) (fun z => absurd z (by decide)) (by decide) rfl (fun M hb hk hx ht hxt => ?_)
  refine st_arr (o := x + 12) (key := 823) (j := 40) (n := 12 + 40) (c := 20) (len := 64) hb hk hx ht hxt (by omega) (by omega) (by decide) (fun q hq => ⟨hxl q hq 40, by omega⟩) (by omega) (by decide) (fun z => absurd z (by decide)) (by decide) rfl (fun M hb hk hx ht hxt => ?_)
  refine st_arr (o := x + 12) (key := 824) (j := 41) (n := 12 + 41) (c := 20) (len := 384) hb hk hx ht hxt (by omega) (by omega) (by decide) (fun q hq => ⟨hxl q hq 41, by omega⟩) (by omega) (by decide) (fun z => absurd z (by decide)) (by decide) rfl (fun M hb hk hx ht hxt => ?_)
  refine st_arr (o := x + 12) (key := 825) (j := 42) (n := 12 + 42) (c := 20) (len := 170) hb hk hx ht hxt (by omega) (by omega) (by decide) (fun q hq => ⟨hxl q hq 42, by omega⟩) (by omega) (by decide) (fun z => absurd z (by decide)) (by decide) rfl (fun M hb hk hx ht hxt => ?_)
  refine st_arr (o := x + 12) (key := 826) (j := 43) (n := 12 + 43) (c := 20) (len := 170) hb hk hx ht hxt (by omega) (by omega) (by decide) (fun q hq => ⟨hxl q hq 43, by omega⟩) (by omega) (by decide) (fun z => absurd z (by decide)) (by decide) rfl (fun M hb hk hx ht hxt => ?_)
  refine st_arr (o := x + 12) (key := 827) (j := 44) (n := 12 + 44) (c := 22) (len := 164) hb hk hx ht hxt (by omega) (by omega) (by decide) (fun q hq => ⟨hxl q hq 44, by omega⟩) (by omega) (by decide) (fun z => absurd z (by decide)) (by decide) rfl (fun M hb hk hx ht hxt => ?_)
  refine st_arr (o := x + 12) (key := 829) (j := 45) (n := 12 + 45) (c := 21) (len := 384) hb hk hx ht hxt (by omega) (by omega) (by decide) (fun q hq => ⟨hxl q hq 45, by omega⟩) (by omega) (by decide) (fun z => absurd z (by decide)) (by decide) rfl (fun M hb hk hx ht hxt => ?_)
  refine st_int (key := 790) hb hk hx ht hxt (fun M hb hk hx ht hxt => ?_)
  exact ⟨M, rfl, hb.le (by omega), hk, hx, fun q hq => ht q ((by decide : ∀ q ∈ mtab, q ∈ _) q hq), hxt⟩
end ST
