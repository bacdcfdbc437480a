theorem tb_cast : ∀ c, c < 11 → 1 ≤ c → Cond.castable (cnm c) "java/lang/Object" ∈ lw_tbl := by decide +kernel
theorem tb_misc : Cond.arrayOver (.object "java/lang/Object") ∈ lw_tbl ∧ Cond.arrayOver (.object "FamilyFields$KeptPart") ∈ lw_tbl ∧ Cond.declares ⟨"java/lang/Object", "getClass", "()Ljava/lang/Class;"⟩ ∈ lw_tbl ∧ Cond.castable "[J" "java/lang/Cloneable" ∈ lw_tbl ∧ Cond.fieldLinkNest "FamilyFields$KeptPart" 47 "FamilyFields" "WIDER_SORTS" "[I" "FamilyFields" ∈ lw_tbl := by decide +kernel
theorem tb_stat : ∀ j, j < 4 → Cond.laysStatic (stN j).1 (stN j).2.1 (stN j).2.2 ∈ lw_tbl ∧ Cond.initialized (stN j).1 ∈ lw_tbl := by decide +kernel
set_option maxHeartbeats 8000000 in
theorem start_of (hpure : ∀ (h b cs wi no de mi L : Nat) (xs : Nat → Int32), Apart h b cs wi no de → L ≤ 4096 → PureOK (M00 h b cs wi no de mi L xs) b)
    {p : Program} {e : Env} {s : State} {m : MethodId} {below : List Frame} {meth : Method} {c : Code} (l : Launch) {b L : Nat} {xs : Nat → Int32} (hL : L ≤ 4096) (C0 : lw_At p s m meth c b L xs) : W p l e room_1 s m #[Value.ref b] below meth c s.heap [] 0 0 (lw_Z below #[Value.ref b] s) (entryFrame m ([Value.ref b] : List Value).toArray 4) := by
  obtain ⟨hx, hb, hr, hml, hown, hts, hX, hbl, hlocks, hgv⟩ := id C0
  have hs := flat_of_before _ hgv
  have hA : ∀ a : Nat, a < s.heap.size → ¬ Ab s.heap.size a := fun a h q => absurd h (Nat.not_lt.mpr q)
  obtain ⟨cs, ecs, Tcs⟩ := va_Tof (args := #[Value.ref b]) (s := s) (tm := .static "FamilyFields" "CHECKED_SORTS" "[I") (ty := .int) (N := 7) (f := fun j => .int (csv j)) (A := Ab s.heap.size) (by decide) (hs _ (by decide +kernel)) (va_eqt (hs (.eq (.length (.static "FamilyFields" "CHECKED_SORTS" "[I")) (.int 7)) (by decide +kernel))) (fun j hj => by
    rcases (show j = 0 ∨ j = 1 ∨ j = 2 ∨ j = 3 ∨ j = 4 ∨ j = 5 ∨ j = 6 by omega) with h | h | h | h | h | h | h <;> subst h
    · exact va_eqt (hs (.eq (.elem (.static "FamilyFields" "CHECKED_SORTS" "[I") (.int 0)) (.int 255)) (by decide +kernel))
    · exact va_eqt (hs (.eq (.elem (.static "FamilyFields" "CHECKED_SORTS" "[I") (.int 1)) (.int 3328)) (by decide +kernel))
    · exact va_eqt (hs (.eq (.elem (.static "FamilyFields" "CHECKED_SORTS" "[I") (.int 2)) (.int 62)) (by decide +kernel))
    · exact va_eqt (hs (.eq (.elem (.static "FamilyFields" "CHECKED_SORTS" "[I") (.int 3)) (.int 30)) (by decide +kernel))
    · exact va_eqt (hs (.eq (.elem (.static "FamilyFields" "CHECKED_SORTS" "[I") (.int 4)) (.int 1024)) (by decide +kernel))
    · exact va_eqt (hs (.eq (.elem (.static "FamilyFields" "CHECKED_SORTS" "[I") (.int 5)) (.int 2048)) (by decide +kernel))
    · exact va_eqt (hs (.eq (.elem (.static "FamilyFields" "CHECKED_SORTS" "[I") (.int 6)) (.int 256)) (by decide +kernel))) hA
  obtain ⟨wi, ewi, Twi⟩ := va_Tof (args := #[Value.ref b]) (s := s) (tm := .static "FamilyFields" "WIDER_SORTS" "[I") (ty := .int) (N := 12) (f := fun j => .int (wiv j)) (A := Ab s.heap.size) (by decide) (hs _ (by decide +kernel)) (va_eqt (hs (.eq (.length (.static "FamilyFields" "WIDER_SORTS" "[I")) (.int 12)) (by decide +kernel))) (fun j hj => by
    rcases (show j = 0 ∨ j = 1 ∨ j = 2 ∨ j = 3 ∨ j = 4 ∨ j = 5 ∨ j = 6 ∨ j = 7 ∨ j = 8 ∨ j = 9 ∨ j = 10 ∨ j = 11 by omega) with h | h | h | h | h | h | h | h | h | h | h | h <;> subst h
    · exact va_eqt (hs (.eq (.elem (.static "FamilyFields" "WIDER_SORTS" "[I") (.int 0)) (.int 0)) (by decide +kernel))
    · exact va_eqt (hs (.eq (.elem (.static "FamilyFields" "WIDER_SORTS" "[I") (.int 1)) (.int 244)) (by decide +kernel))
    · exact va_eqt (hs (.eq (.elem (.static "FamilyFields" "WIDER_SORTS" "[I") (.int 2)) (.int 240)) (by decide +kernel))
    · exact va_eqt (hs (.eq (.elem (.static "FamilyFields" "WIDER_SORTS" "[I") (.int 3)) (.int 240)) (by decide +kernel))
    · exact va_eqt (hs (.eq (.elem (.static "FamilyFields" "WIDER_SORTS" "[I") (.int 4)) (.int 224)) (by decide +kernel))
    · exact va_eqt (hs (.eq (.elem (.static "FamilyFields" "WIDER_SORTS" "[I") (.int 5)) (.int 192)) (by decide +kernel))
    · exact va_eqt (hs (.eq (.elem (.static "FamilyFields" "WIDER_SORTS" "[I") (.int 6)) (.int 128)) (by decide +kernel))
    · exact va_eqt (hs (.eq (.elem (.static "FamilyFields" "WIDER_SORTS" "[I") (.int 7)) (.int 0)) (by decide +kernel))
    · exact va_eqt (hs (.eq (.elem (.static "FamilyFields" "WIDER_SORTS" "[I") (.int 8)) (.int 0)) (by decide +kernel))
    · exact va_eqt (hs (.eq (.elem (.static "FamilyFields" "WIDER_SORTS" "[I") (.int 9)) (.int 0)) (by decide +kernel))
    · exact va_eqt (hs (.eq (.elem (.static "FamilyFields" "WIDER_SORTS" "[I") (.int 10)) (.int 0)) (by decide +kernel))
    · exact va_eqt (hs (.eq (.elem (.static "FamilyFields" "WIDER_SORTS" "[I") (.int 11)) (.int 0)) (by decide +kernel))) hA
  obtain ⟨no, eno, Tno⟩ := va_Tof (args := #[Value.ref b]) (s := s) (tm := .static "FamilyFields" "NOTHING" "[J") (ty := .long) (N := 0) (f := fun _ => .long 0) (A := Ab s.heap.size) (by decide) (hs _ (by decide +kernel)) (va_eqt (hs (.eq (.length (.static "FamilyFields" "NOTHING" "[J")) (.int 0)) (by decide +kernel))) (fun j hj => absurd hj (Nat.not_lt_zero j)) hA
  obtain ⟨de, ede, Tde⟩ := va_Tof (args := #[Value.ref b]) (s := s) (tm := .static "java/util/ArrayList" "DEFAULTCAPACITY_EMPTY_ELEMENTDATA" "[Ljava/lang/Object;") (ty := .object "java/lang/Object") (N := 0) (f := fun _ => .null) (A := Ab s.heap.size) (by decide) (hs _ (by decide +kernel)) (va_eqt (hs (.eq (.length (.static "java/util/ArrayList" "DEFAULTCAPACITY_EMPTY_ELEMENTDATA" "[Ljava/lang/Object;")) (.int 0)) (by decide +kernel))) (fun j hj => absurd hj (Nat.not_lt_zero j)) hA
  obtain ⟨mi, hmi⟩ := va_Mi.of (hs (.isRef (.mirror "[Ljava/lang/Object;")) (by decide +kernel))
  have Tb : va_T .int b L (fun j => .int (xs j)) (Ab s.heap.size) s s.heap := by
    obtain ⟨scr, x1, x2, x3, x4, x5⟩ := hX
    exact ⟨scr, x1, x2, x3, by omega, by rw [x4], x5, hA b hbl⟩
  have nb : ∀ (n : String) (t : Nat), (Cond.not (.eq (.arg 0) (.static "FamilyFields" n "[I"))).before #[Value.ref b] s = true → (Term.static "FamilyFields" n "[I").eval #[Value.ref b] s none [] s = some (.ref t) → b ≠ t := by
    intro n t h1 h2 h3
    subst h3
    have h4 : (Term.arg 0).eval #[Value.ref b] s none [] s = some (.ref b) := rfl
    simp [Cond.before, Cond.holds, Cond.value, h2, h4] at h1
  have hap : Apart s.heap.size b cs wi no de := ⟨hbl, T_lt Tcs, T_lt Twi, T_lt Tno, T_lt Tde, nb _ _ (hs (.not (.eq (.arg 0) (.static "FamilyFields" "CHECKED_SORTS" "[I"))) (by decide +kernel)) ecs, nb _ _ (hs (.not (.eq (.arg 0) (.static "FamilyFields" "WIDER_SORTS" "[I"))) (by decide +kernel)) ewi, T_ne Tcs Twi (Or.inr (by decide)), T_ne Tno Tb (Or.inl (by decide)), T_ne Tno Tcs (Or.inl (by decide)), T_ne Tno Twi (Or.inl (by decide)), T_ne Tde Tb (Or.inl (by decide)), T_ne Tde Tcs (Or.inl (by decide)), T_ne Tde Twi (Or.inl (by decide)), T_ne Tde Tno (Or.inl (by decide))⟩
  obtain ⟨Me, hrun, hc1, hc2⟩ := hpure s.heap.size b cs wi no de mi L xs hap hL
  obtain ⟨-, -, -, -, -, n1, n2, n3, n4, n5, n6, n7, n8, n9, n10⟩ := hap
  generalize hM : M00 s.heap.size b cs wi no de mi L xs = M at hrun hc1 hc2
  obtain ⟨n, hn⟩ := (rn_iff PP (231, 0, ent [pR (some b)] 4, [], M) (some (pI 1), Me)).mp hrun
  -- the classes
  have hts2 : ∀ w ∈ LG, w.before #[Value.ref b] s = true := fun w h => hts w (LG_of h).1
  have hKn : ∀ k, ∃ q : ClassId × (Nat → Nat), k < 13 → u_Kn s (cnm k) (fT k) (nfl k) q.1 q.2 := by
    intro k
    by_cases hk : k < 13
    · obtain ⟨cC, iS, h⟩ := u_known hts2 (cW_all k hk) (hts _ (inst_all k hk))
      exact ⟨(cC, iS), fun _ => h⟩
    · obtain ⟨cC, iS, h⟩ := u_known hts2 (cW_all 0 (by omega)) (hts _ (inst_all 0 (by omega)))
      exact ⟨(cC, iS), fun h => absurd h hk⟩
  obtain ⟨Df, hDf⟩ := Classical.axiomOfChoice hKn
  obtain ⟨c20, a20⟩ := arrC (hts _ ac_int.1) (fun C h => by cases h)
  obtain ⟨c21, a21⟩ := arrC (hts _ ac_int.2.1) (fun C h => by cases h)
  obtain ⟨c22, a22⟩ := arrC (hts _ ac_int.2.2) (fun C h => by cases h)
  have hNW : NW s := ⟨va_AO.of (hts _ tb_misc.1), va_AO.of (hts _ tb_misc.2.1), va_Dc.of (hts _ tb_misc.2.2.1), fun k h1 h2 => va_Nw.of rfl (hts _ (tb_cast k (by omega) h1)), va_Nw.of rfl (hts _ tb_misc.2.2.2.1), va_Nw.of rfl (hts _ tb_misc.2.2.2.2)⟩
  obtain ⟨c23, a23⟩ := arrO hNW.1
  obtain ⟨c24, a24⟩ := arrO hNW.2.1
  have hK : va_K ((fun k => (Df k).1), (fun k => (Df k).2)) cls13 (tys5 (fun k => if k = 20 then c20 else if k = 21 then c21 else if k = 22 then c22 else if k = 23 then c23 else c24)) s := by
    refine ⟨fun k q hq => ?_, fun k q hq => ?_⟩
    · have hk : k < 13 := (List.getElem?_eq_some_iff.mp hq).1
      rw [cls_at k hk] at hq
      cases hq
      exact hDf k hk
    · match k, hq with
      | 0, hq => cases hq; exact a20
      | 1, hq => cases hq; exact a21
      | 2, hq => cases hq; exact a22
      | 3, hq => cases hq; exact a23
      | 4, hq => cases hq; exact a24
      | k + 5, hq => cases hq
  generalize (fun k : Nat => if k = 20 then c20 else if k = 21 then c21 else if k = 22 then c22 else if k = 23 then c23 else c24) = cA at hK
  generalize ((fun k => (Df k).1), (fun k => (Df k).2)) = D at hK
  have ekd : ∀ a, kd M a = if a = b ∨ a = cs ∨ a = wi then 30 else if a = no then 31 else if a = de then 33 else 99 := fun a => by rw [← hM]; rfl
  have eln : ∀ a, ln M a = if a = b then L else if a = cs then 7 else if a = wi then 12 else 0 := fun a => by rw [← hM]; rfl
  have eaI : ∀ a, aI M a = if a = b then xs else if a = cs then csv else if a = wi then wiv else fun _ => 0 := fun a => by rw [← hM]; rfl
  have eaJ : ∀ a, aJ M a = fun _ => 0 := fun a => by rw [← hM]; rfl
  have hT : mT M = s.heap.size := by rw [← hM]; rfl
  have e0 : sR M 0 = some cs := by rw [← hM]; rfl
  have e1 : sR M 1 = some wi := by rw [← hM]; rfl
  have e2 : sR M 2 = some no := by rw [← hM]; rfl
  have e3 : sR M 3 = some de := by rw [← hM]; rfl
  have e5 : sR M 5 = some mi := by rw [← hM]; rfl
  have hSF : SF s.heap.size M s s.heap := by
    refine ⟨fun a ha => ?_, fun a ha => ?_, fun a ha => ?_, fun j hj => ?_, ⟨mi, e5, hmi⟩, fun a h1 h2 => ?_⟩
    · rw [ekd] at ha
      rw [eln, eaI]
      split at ha
      · rename_i h
        rcases h with h | h | h
        · rw [if_pos h, if_pos h, h]; exact Tb
        · rw [if_neg (by omega), if_pos h, if_neg (by omega), if_pos h, h]; exact Tcs
        · rw [if_neg (by omega), if_neg (by omega), if_pos h, if_neg (by omega), if_neg (by omega), if_pos h, h]; exact Twi
      · split at ha
        · omega
        · split at ha <;> omega
    · rw [ekd] at ha
      rw [eln, eaJ]
      split at ha
      · omega
      · rename_i h
        split at ha
        · rename_i h2
          rw [if_neg (by omega), if_neg (by omega), if_neg (by omega), h2]
          exact Tno
        · split at ha <;> omega
    · rw [ekd] at ha
      rw [eln]
      split at ha
      · omega
      · rename_i h
        split at ha
        · omega
        · split at ha
          · rename_i h2
            rw [if_neg (by omega), if_neg (by omega), if_neg (by omega), h2]
            exact Tde
          · omega
    · obtain ⟨t1, t2⟩ := tb_stat j hj
      rcases (show j = 0 ∨ j = 1 ∨ j = 2 ∨ j = 3 by omega) with h | h | h | h <;> subst h
      · rw [e0]; exact va_Zof (hts _ t1) (hts _ t2) ecs hA
      · rw [e1]; exact va_Zof (hts _ t1) (hts _ t2) ewi hA
      · rw [e2]; exact va_Zof (hts _ t1) (hts _ t2) eno hA
      · rw [e3]; exact va_Zof (hts _ t1) (hts _ t2) ede hA
    · rw [ekd] at h1 h2 ⊢
      split
      · exact Or.inl rfl
      · split
        · exact Or.inr (Or.inl rfl)
        · split
          · exact Or.inr (Or.inr rfl)
          · rename_i q1 q2 q3
            rw [if_neg q1, if_neg q2, if_neg q3] at h2
            omega
  have hv : PIv s.heap.size M := by
    have hbig : ∀ a, 30 ≤ kd M a := fun a => by
      rw [ekd]
      split
      · omega
      · split
        · omega
        · split <;> omega
    refine ⟨by omega, fun a ha => ?_, fun a ha => ?_⟩
    · have := hbig a; omega
    · have := hbig a; omega
  have hP : va_P D cls13 (wsOf s.heap.size cA M) s.heap := by
    rw [show wsOf s.heap.size cA M = [] by show wsN _ _ _ _ = []; rw [hT, Nat.sub_self]; rfl]
    exact fun k q h => by simp at h
  obtain ⟨m1, m2, m3, m4, m5, m6, m7⟩ := mi231
  rw [lg_entry_eq]
  have h := snd_all (l := l) (D := D) (cA := cA) (base := s.heap.size) n 231 0 (ent [pR (some b)] 4) [] M (some (pI 1)) Me hn p e room_1 s m #[Value.ref b] below meth c M (lw_Z below #[Value.ref b] s) s.heap [] _
    ⟨hx, by rw [m1]; exact hb, by rw [m2]; exact hml, by rw [m4]; exact hown, fun w h1 h2 => hts w h1, (fun h => by rw [m7] at h; cases h), hT.symm, by omega, m5, m6, hc1, hc2, hK, hNW, ?_⟩ (Mo.rf M) hv hSF hP va_S.rf (lay_has [pR (some b)] 4 (by rw [lg_len]; show 1 + 0 ≤ 4; omega))
  · rw [Nat.sub_self, Nat.sub_self] at h
    exact h
  · intro pc ls H locs ins hd hR hPe hSe
    rcases hR with ⟨rfl, x, h1, h2⟩ | ⟨rfl, x, h1, h2⟩ | ⟨rfl, x, h1, h2⟩ | ⟨rfl, h1, h2⟩
    · refine va_forget hSe.2.2 (W.widen hc1 hc2 ?_)
      rw [m1] at hd
      exact lw_ret (Drawn.sameBut.refl s.drawn lw_cs) hx hb hr hlocks hd
    · cases h1
    · cases h1
    · cases h1
