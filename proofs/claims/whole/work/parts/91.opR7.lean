/-! RECORDS: checks that go or move -/
theorem Fr.bL0 {base : Nat} {K L AI AJ : Nat → Prop} {n l : Nat} {M M1 M2 : Mem} (h : Fr base K L AI AJ n M M1) (g : LM M1 M2 l) (hv : PIv base M2) (hL : L l ∨ mT M ≤ l) (e1 : mT M2 = mT M1) (e2 : mS M2 = mS M1) : Fr base K L AI AJ n M M2 := by
  have f := h.bL g hv hL
  obtain ⟨⟨a1, a2, a3, a4, a5⟩, -⟩ := h
  exact ⟨⟨by omega, by omega, by omega, by omega, f.1.2.2.2.2⟩, f.2⟩
theorem isO.erase0 {α : Type} {M : Mem} {x l base i : Nat} {P : α → Nat → Prop} {xs : List α} (h : isO M x l P xs) (hv : PIv base M) (hLI : LI M) (hi : i < xs.length) :
    ∃ v M', ex 20 4 [pR (some l), pI (nI i)] M = some (some (pR v), M') ∧ LM M M' l ∧ PIv base M' ∧ mT M' = mT M ∧ mS M' = mS M ∧ (∀ P' : α → Nat → Prop, (∀ q b, x + 57 < b → P q b → P' q b) → isO M' x l P' (xs.eraseIdx i)) := by
  obtain ⟨v, M', e1, e2, e3, e4⟩ := h.erase hv hLI hi
  obtain ⟨as, h1, h2, h3, h4⟩ := h
  obtain ⟨v', M'', g1, -, -, g4, g5⟩ := L_remove hLI h1 (i := i) (by omega)
  rw [e1] at g1
  cases g1
  exact ⟨v, M', e1, e2, e3, g4, g5, e4⟩
theorem nIm1' (n : Nat) : nI n + (-1) = nI n - 1 := (Int32.sub_eq_add_neg _ _).symm
section OPR
variable {x : Nat} {E E' : List TE} {R R' : List TR} {F F' : List TF} {W W' : List TW} {O O' : List TO} {T T' : List TL} {S S' : TS} {jW jO jW' jO' n : Nat} {M M1 : Mem}
theorem c_dropChecks_loop {a p : Nat} (cs : List TK) (hp : p < 2147483648) (hcs : ∀ c ∈ cs, c.1 < 2147483648) (hl : cs.length ≤ 1002) : ∀ (n : Nat) (M : Mem), n ≤ cs.length → PIv x M → LI M → kd M a = 9 → gR M 577 a = some (a + 2) → isO M x (a + 2) (cK M) (cs.take n ++ (cs.drop n).filter (fun c => decide (c.1 ≠ p))) →
    ∃ M', rn PP 67 10 [some (pR (some a)), some (pI (nI p)), some (pI (nI n - 1))] [] M = some (none, M') ∧ isO M' x (a + 2) (cK M') (cs.filter (fun c => decide (c.1 ≠ p))) ∧ Fr x No (fun l => l = a + 2) No No 0 M M' := by
  intro n
  induction n with
  | zero =>
    intro M _ hv hL hk hg hO
    refine ⟨M, ?_, by simpa using hO, Fr.rf hv hL⟩
    rw [tX9_dropChecks_10]
    exact it_t (by decide) rfl
  | succ n ih =>
    intro M hn hv hL hk hg hO
    obtain ⟨c, hc, hd⟩ := drop_get (l := cs) (i := n) (by omega)
    have ht : cs.take (n + 1) = cs.take n ++ [c] := by rw [List.take_succ, hc]; rfl
    have htl : (cs.take n).length = n := by rw [List.length_take]; omega
    rw [ht] at hO
    have hat : (cs.take n ++ [c] ++ (cs.drop (n + 1)).filter (fun c => decide (c.1 ≠ p)))[n]? = some c := by
      rw [List.append_assoc, List.getElem?_append_right (by omega), htl, Nat.sub_self]
      rfl
    obtain ⟨k, g1, g2, g3, -⟩ := hO.at hat
    have hcm : c.1 < 2147483648 := hcs c (List.mem_of_getElem? hc)
    rw [nI_pred]
    by_cases e : c.1 = p
    · -- it goes
      obtain ⟨v, M1, w1, w2, w3, w4, w5, w6⟩ := hO.erase0 hv hL (i := n) (by simp [htl])
      have f : Fr x No (fun l => l = a + 2) No No 0 M M1 := (Fr.rf hv hL).bL0 w2 w3 (Or.inl rfl) w4 w5
      have ha := lt_of_kd hv hk (by omega)
      have hO1 : isO M1 x (a + 2) (cK M1) (cs.take n ++ (cs.drop n).filter (fun c => decide (c.1 ≠ p))) := by
        have := w6 (cK M1) (fun q b _ h => h.fr f (fun _ _ => id))
        rw [List.append_assoc, List.eraseIdx_append_of_length_le (by omega), htl, Nat.sub_self] at this
        rw [hd, List.filter_cons_of_neg (by simp [e])]
        exact this
      obtain ⟨M', e1, e2, e3⟩ := ih M1 (by omega) f.v f.li (by rw [f.fk ha]; exact hk) (by rw [f.fR (by omega) ha id]; exact hg) hO1
      refine ⟨M', ?_, e2, f.tr e3⟩
      rw [tX9_dropChecks_10]
      refine it_f (nI_pos (by omega)) (rd_i rfl hk (rd_i hg hO.k (clR_i g1 (ck_s rfl g3.1 (rd_i rfl g3.1 (it_f (not_not_intro (by rw [g3.2.1, e])) (rd_i rfl hk (rd_i hg hO.k (clR_i w1 ?_)))))))))
      rw [nIm1']
      exact e1
    · have hO1 : isO M x (a + 2) (cK M) (cs.take n ++ (cs.drop n).filter (fun c => decide (c.1 ≠ p))) := by
        rw [hd, List.filter_cons_of_pos (by simp [e])]
        rw [List.append_assoc] at hO
        exact hO
      obtain ⟨M', e1, e2, e3⟩ := ih M (by omega) hv hL hk hg hO1
      refine ⟨M', ?_, e2, e3⟩
      rw [tX9_dropChecks_10]
      refine it_f (nI_pos (by omega)) (rd_i rfl hk (rd_i hg hO.k (clR_i g1 (ck_s rfl g3.1 (rd_i rfl g3.1 (it_t (fun z => e ?_) ?_))))))
      · rw [g3.2.1] at z
        exact nI_inj hcm hp z
      · rw [nIm1']
        exact e1
theorem c_dropChecks {a p : Nat} {q : TR} (hc : cR x M q a) (hv : PIv x M) (hL : LI M) (hp : p < 2147483648) (hcs : ∀ c ∈ q.2.1, c.1 < 2147483648) : ∃ M', ex 67 3 [pR (some a), pI (nI p)] M = some (none, M') ∧ cR x M' (q.1, q.2.1.filter (fun c => decide (c.1 ≠ p)), q.2.2) a ∧ Fr x No (fun l => l = a + 2) No No 0 M M' := by
  obtain ⟨c1, c2, c3, c4, c5, c6⟩ := hc
  have hl := c6.len
  obtain ⟨M', e1, e2, e3⟩ := c_dropChecks_loop (a := a) (p := p) q.2.1 hp hcs hl q.2.1.length M (Nat.le_refl _) hv hL c1 c3 (by simpa using c6)
  have ha := lt_of_kd hv c1 (by omega)
  refine ⟨M', ?_, ⟨by rw [e3.fk ha]; exact c1, by rw [e3.fR (by omega) ha id]; exact c2, by rw [e3.fR (by omega) ha id]; exact c3, by rw [e3.fI (by omega) ha id]; exact c4, c5.mono (e3.ls (fun q => by omega)) (fun r c _ h => h.fr e3 (fun _ _ => id)), e2⟩, e3⟩
  rw [tX9_dropChecks]
  exact rd_i rfl c1 (rd_i c3 c6.k (clI_i c6.size e1))
/-- the checks of parts behind one that went -/
def mvK (p : Nat) (c : TK) : TK := if p < c.1 then (c.1 - 1, c.2) else c
theorem c_moveChecks_loop {a p : Nat} (cs : List TK) (hp : p < 2147483648) (hcs : ∀ c ∈ cs, c.1 < 2147483648) : ∀ (n i : Nat) (M : Mem), n + i = cs.length → PIv x M → LI M → kd M a = 9 → gR M 577 a = some (a + 2) → isO M x (a + 2) (cK M) ((cs.take i).map (mvK p) ++ cs.drop i) →
    ∃ M', rn PP 68 2 [some (pR (some a)), some (pI (nI p)), some (pI (nI i))] [] M = some (none, M') ∧ isO M' x (a + 2) (cK M') (cs.map (mvK p)) ∧ Fr x (fun k => k = 64) No No No 0 M M' ∧ ∀ b, ¬ inL M (a + 2) b → gI M' 64 b = gI M 64 b := by
  intro n
  induction n with
  | zero =>
    intro i M hi hv hL hk hg hO
    have hsz := hO.size
    have hl := hO.len
    rw [List.length_append, List.length_map, List.length_take, List.length_drop] at hsz hl
    have e0 : (cs.take i).map (mvK p) ++ cs.drop i = cs.map (mvK p) := by rw [List.take_of_length_le (by omega), List.drop_of_length_le (by omega), List.append_nil]
    rw [e0] at hO
    refine ⟨M, ?_, hO, Fr.rf hv hL, fun _ _ => rfl⟩
    rw [tX9_moveChecks_2]
    exact rd_i rfl hk (rd_i hg hO.k (clI_i hsz (it_t (nI_le (by omega) (by omega)) rfl)))
  | succ n ih =>
    intro i M hi hv hL hk hg hO
    have hsz := hO.size
    have hl := hO.len
    rw [List.length_append, List.length_map, List.length_take, List.length_drop] at hsz hl
    obtain ⟨c, hc, hd⟩ := drop_get (l := cs) (i := i) (by omega)
    have htl : ((cs.take i).map (mvK p)).length = i := by rw [List.length_map, List.length_take]; omega
    have hat : ((cs.take i).map (mvK p) ++ cs.drop i)[i]? = some c := by
      rw [List.getElem?_append_right (by omega), htl, Nat.sub_self, hd]
      rfl
    have hcm : c.1 < 2147483648 := hcs c (List.mem_of_getElem? hc)
    obtain ⟨k, g1, g2, g3, g4, -⟩ := hO.at hat
    have ht : cs.take (i + 1) = cs.take i ++ [c] := by rw [List.take_succ, hc]; rfl
    have ha := lt_of_kd hv hk (by omega)
    have nxt : ∀ c', ((cs.take i).map (mvK p) ++ cs.drop i).set i c' = (cs.take i).map (mvK p) ++ (c' :: cs.drop (i + 1)) := by
      intro c'
      rw [List.set_append_right _ _ (by omega), htl, Nat.sub_self, hd]
      rfl
    by_cases e : p < c.1
    · have f : Fr x (fun k => k = 64) No No No 0 M (sI M 64 k (nI c.1 - 1)) := (Fr.rf hv hL).bI (Or.inl ⟨by omega, rfl⟩)
      have hs1 : nI c.1 - 1 = nI (c.1 - 1) := nI_sub (b := 1) (by omega)
      have hO1 : isO (sI M 64 k (nI c.1 - 1)) x (a + 2) (cK (sI M 64 k (nI c.1 - 1))) ((cs.take (i + 1)).map (mvK p) ++ cs.drop (i + 1)) := by
        have := g4 (sI M 64 k (nI c.1 - 1)) (cK (sI M 64 k (nI c.1 - 1))) (c.1 - 1, c.2) (f.ls id) ?_ (fun q b hb _ h => ?_)
        · rw [nxt] at this
          rw [ht, List.map_append, List.append_assoc]
          have e9 : [c].map (mvK p) = [(c.1 - 1, c.2)] := by simp [mvK, e]
          rw [e9]
          exact this
        · obtain ⟨y1, y2, y3, y4, y5⟩ := g3
          exact ⟨y1, by rw [gI_sI, up2_at, hs1], by rw [gI_sI, up2_ne (by decide)]; exact y3, y4, y5⟩
        · obtain ⟨y1, y2, y3, y4, y5⟩ := h
          exact ⟨y1, by rw [gI_sI, up2_no hb]; exact y2, by rw [gI_sI, up2_no hb]; exact y3, y4, y5⟩
      obtain ⟨M', e1, e2, e3, e4⟩ := ih (i + 1) _ (by omega) f.v f.li (by rw [f.fk ha]; exact hk) (by rw [f.fR (by omega) ha (by decide)]; exact hg) hO1
      refine ⟨M', ?_, e2, f.tr e3, fun b hb => ?_⟩
      rotate_left
      · have hbk : b ≠ k := fun q => hb (q ▸ hO.mem (i := i) (List.getElem?_eq_some_iff.mp hat).1 g1)
        rw [e4 b (by unfold inL at hb ⊢; rw [kd_sI, gR_sI, aR_sI]; exact hb), gI_sI, up2_no hbk]
      rw [tX9_moveChecks_2]
      refine rd_i rfl hk (rd_i hg hO.k (clI_i hsz (it_f (nI_ge (by omega) (by omega)) (rd_i rfl hk (rd_i hg hO.k (clR_i g1 (ck_s rfl g3.1 (rd_i rfl g3.1 (it_f (fun z => ?_) (rd_i rfl hk (rd_i hg hO.k (clR_i g1 (ck_s rfl g3.1 (rd_i rfl g3.1 (rd_i rfl g3.1 (bd_i ?_))))))))))))))))
      · rw [g3.2.1, nI_leI hcm hp] at z
        omega
      · rw [g3.2.1, nI_1]
        exact e1
    · have hO1 : isO M x (a + 2) (cK M) ((cs.take (i + 1)).map (mvK p) ++ cs.drop (i + 1)) := by
        rw [ht, List.map_append, List.append_assoc]
        have e9 : [c].map (mvK p) = [c] := by simp [mvK, e]
        rw [e9]
        rw [hd] at hO
        exact hO
      obtain ⟨M', e1, e2, e3, e4⟩ := ih (i + 1) M (by omega) hv hL hk hg hO1
      refine ⟨M', ?_, e2, e3, e4⟩
      rw [tX9_moveChecks_2]
      refine rd_i rfl hk (rd_i hg hO.k (clI_i hsz (it_f (nI_ge (by omega) (by omega)) (rd_i rfl hk (rd_i hg hO.k (clR_i g1 (ck_s rfl g3.1 (rd_i rfl g3.1 (it_t ?_ ?_)))))))))
      · rw [g3.2.1, nI_leI hcm hp]
        omega
      · rw [nI_1]
        exact e1
theorem c_moveChecks {a p : Nat} {q : TR} (hc : cR x M q a) (hv : PIv x M) (hL : LI M) (hp : p < 2147483648) (hcs : ∀ c ∈ q.2.1, c.1 < 2147483648) : ∃ M', ex 68 3 [pR (some a), pI (nI p)] M = some (none, M') ∧ cR x M' (q.1, q.2.1.map (mvK p), q.2.2) a ∧ Fr x (fun k => k = 64) No No No 0 M M' ∧ ∀ b, ¬ inL M (a + 2) b → gI M' 64 b = gI M 64 b := by
  obtain ⟨c1, c2, c3, c4, c5, c6⟩ := hc
  obtain ⟨M', e1, e2, e3, e4⟩ := c_moveChecks_loop (a := a) (p := p) q.2.1 hp hcs q.2.1.length 0 M (by omega) hv hL c1 c3 (by simpa using c6)
  have ha := lt_of_kd hv c1 (by omega)
  refine ⟨M', ?_, ⟨by rw [e3.fk ha]; exact c1, by rw [e3.fR (by omega) ha (by decide)]; exact c2, by rw [e3.fR (by omega) ha (by decide)]; exact c3, by rw [e3.fI (by omega) ha (by decide)]; exact c4, c5.mono (e3.ls id) (fun r c _ h => h.fr e3 (by decide)), e2⟩, e3, e4⟩
  rw [tX9_moveChecks]
  exact e1
end OPR
