/-! LOADING: what a part becomes, on both sides -/
section OPS
variable {x : Nat} {E E' : List TE} {R R' : List TR} {F F' : List TF} {W W' : List TW} {O O' : List TO} {T T' : List TL} {S S' : TS} {jW jO jW' jO' n : Nat} {M M' M1 : Mem}
def shT (T T' : List TL) : Prop := T'.length = T.length ∧ ∀ (l : Nat) (q : TL), T[l]? = some q → ∃ q', T'[l]? = some q' ∧ q'.1 = q.1 ∧ q'.2.2.2 = q.2.2.2
theorem shT.rf : shT T T := ⟨rfl, fun _ q h => ⟨q, h, rfl, rfl⟩⟩
def gwW (W W' : List TW) : Prop := ∀ (r : Nat) (w : TW), W[r]? = some w → W'[r]? = some w
theorem m_isOfFam2 {m k r : Nat} {fq : TF} (hM : MI m E R F W O T S M) (hw : wfF R.length F) (hk : F[k]? = some fq) : ∃ M', ex 174 3 [pR (some m), pI (nI r), pI (nI k)] M = some (some (pI (if nI r ∈ fq.2 then 1 else 0)), M') ∧ CU m M M' ∧ MI m E R F W O T S M' ∧ AtH m M M' ∧ gJ M' 830 m = gJ M 830 m := by
  obtain ⟨mB, -, mR, mF, -, -, -, -⟩ := id hM
  have hkl : k < F.length := (List.getElem?_eq_some_iff.mp hk).1
  have hmb := hw.mb mR.2.1 mF.2.1
  have hlv : fq.2 = lvF F k := by rw [(hw k fq hk).2, lvT_at _ _ _ hkl]; rfl
  have h6 : fq.2.length ≤ 6 := by
    rw [hlv]
    exact pigeon 6 _ (gd_lv hmb k).1 (gd_lv hmb k).2
  obtain ⟨M2, e2, f2⟩ := m_findLeaves mB mF hkl hmb
  obtain ⟨⟨mB2, cu, uf⟩, ⟨w1, w2, w3⟩, -, -, -, hjj⟩ := id f2
  have hm := fndI_mem (c := nI r) fq.2 0 (by omega)
  have run : ex 174 3 [pR (some m), pI (nI r), pI (nI k)] M = some (some (pI (if nI r ∈ fq.2 then 1 else 0)), M2) := by
    rw [tX12_isOfFamily]
    refine rd_i rfl mB.k (clV_i e2 (rd_i rfl mB2.k (clI_i (m_tagOf f2 _) ?_)))
    rw [← hlv]
    by_cases c : nI r ∈ fq.2
    · rw [if_pos c]
      exact it_f (fun z => hm.mp z c) (zo_i (Or.inr rfl) rfl)
    · rw [if_neg c]
      exact it_t (hm.mpr c) (zo_i (Or.inl rfl) rfl)
  refine ⟨M2, run, cu, hM.uf uf (mF.cg w1 w2 w3), ⟨uf.2.2.1 42 (by omega), uf.2.2.1 43 (by omega), uf.2.2.2 45, uf.2.2.2 29⟩, by rw [hjj]⟩
def VB (x : Nat) (E : List TE) (R : List TR) (F : List TF) (W : List TW) (O : List TO) (T : List TL) (S : TS) (jW jO : Nat) (as : List Nat) (ad : Nat → Nat → Nat) (M : Mem) (s : TP) (r p l pk ka : Nat) : Prop :=
  ∃ (c : Int32) (v : Int64) (W' : List TW) (T' : List TL) (S' : TS) (jW' : Nat) (M1 : Mem) (nn : Nat),
    (ex 149 3 [pR (some x), pR (some (ad l pk)), pR (some ka)] M = some (some (pJ v), M1) ∧ XI x E R F W' O T' S' jW' jO M1 ∧ XLa x M1 as ad T' ∧ Fr x KV (fun l => l = x + 4) No (JW x M) nn M M1) ∧
    (∀ Mz, XI x E R F W' O T' S' jW' jO Mz → XLa x Mz as ad T' → cP Mz s ka → ex 150 6 [pR (some x), pR (some (ad l pk)), pR (some ka), pJ v] Mz = some (some (pI c), Mz)) ∧
    (AW E R F W' O T' S' jW' jO ∧ (c = 0 ∨ c = 6 ∨ c = 8) ∧ (c = 0 → valOK E F W' O O.length s.2.1 s.2.2.1 v) ∧ gwW W W' ∧ shT T T' ∧ cntL T' = cntL T ∧ nn + 64 * (W.length + jW) ≤ 64 * (W'.length + jW')) ∧
    (∀ (m : Nat) (Mm : Mem), MI m E R F W O T S Mm → ∃ Mm', ex 223 4 [pR (some m), pI (nI (6 * r + p)), pI (nI (6 * l + pk))] Mm = some (some (pI c), Mm') ∧ CU m Mm Mm' ∧ MI m E R F W' O T' S' Mm' ∧ AtH m Mm Mm' ∧ (c = 0 → gJ Mm' 830 m = v))
/-- nothing but the value -/
theorem VB.same {as : List Nat} {ad : Nat → Nat → Nat} {s : TP} {r p l pk ka : Nat} {c : Int32} {v : Int64} (hX : XI x E R F W O T S jW jO M) (hla : XLa x M as ad T) (aw : AW E R F W O T S jW jO) (h1 : ex 149 3 [pR (some x), pR (some (ad l pk)), pR (some ka)] M = some (some (pJ v), M)) (h2 : ∀ Mz, XI x E R F W O T S jW jO Mz → XLa x Mz as ad T → cP Mz s ka → ex 150 6 [pR (some x), pR (some (ad l pk)), pR (some ka), pJ v] Mz = some (some (pI c), Mz)) (hc : c = 0 ∨ c = 6 ∨ c = 8) (hv : c = 0 → valOK E F W O O.length s.2.1 s.2.2.1 v) (h3 : ∀ (m : Nat) (Mm : Mem), MI m E R F W O T S Mm → ∃ Mm', ex 223 4 [pR (some m), pI (nI (6 * r + p)), pI (nI (6 * l + pk))] Mm = some (some (pI c), Mm') ∧ CU m Mm Mm' ∧ MI m E R F W O T S Mm' ∧ AtH m Mm Mm' ∧ (c = 0 → gJ Mm' 830 m = v)) : VB x E R F W O T S jW jO as ad M s r p l pk ka :=
  ⟨c, v, W, T, S, jW, M, 0, ⟨h1, hX, hla, Fr.rf hX.1.2.1 hX.1.2.2⟩, h2, ⟨aw, hc, hv, fun _ _ h => h, shT.rf, rfl, by omega⟩, h3⟩
/-- the head of comes -/
theorem m_comes_head {m r p l pk : Nat} {rc : TR} {s : TP} (hM : MI m E R F W O T S M) (hrc : R[r]? = some rc) (hs : rc.1[p]? = some s) (hlk : 6 * l + pk < 384) {rr : Option Rt} (hr : (clI (ex 219 10 [pR (some m), pI (nI (6 * r + p)), pI (nI (6 * l + pk))] (sJ M 830 m s.2.2.2)) fun r8 M6 => if ¬ r8 = 0 then some (some (pI r8), M6) else rd (some m) 12 M6 fun a9 => ix 20 30 (gR M6 776 a9) (nI (6 * r + p)) M6 fun a10 j11 => if aI M6 a10 j11 = 11 then rd (some m) 12 M6 fun a12 => ix 21 21 (gR M6 820 a12) (nI (6 * l + pk)) M6 fun a13 j14 => if 0 ≤ lg_cmp (aJ M6 a13 j14) (0 : Int64) then rd (some m) 12 M6 fun a15 => rd (some m) 12 M6 fun a16 => ix 21 21 (gR M6 820 a16) (nI (6 * l + pk)) M6 fun a17 j18 => ix 20 30 (gR M6 823 a15) ((aJ M6 a17 j18).toInt32) M6 fun a19 j20 => rd (some m) 12 M6 fun a21 => bd (sJ M6 830 a21 ((aI M6 a19 j20).toInt64)) fun M22 => rd (some m) 12 M22 fun a23 => if lg_cmp (gJ M22 830 a23) (0 : Int64) < 0 then some (some (pI 0), M22) else rd (some m) 12 M22 fun a24 => rd (some m) 12 M22 fun a25 => ix 20 30 (gR M22 802 a24) ((gJ M22 830 a25).toInt32) M22 fun a26 j27 => rd (some m) 12 M22 fun a28 => ix 20 30 (gR M22 777 a28) (nI (6 * r + p)) M22 fun a29 j30 => rd (some m) 12 M22 fun a32 => clI (ex 174 3 [pR (some a32), pI (aI M22 a26 j27), pI (aI M22 a29 j30)] M22) fun r33 M31 => if ¬ r33 = 0 then some (some (pI 0), M31) else some (some (pI 6), M31) else rd (some m) 12 M6 fun a34 => bd (sJ M6 830 a34 (-1 : Int64)) fun M35 => rd (some m) 12 M35 fun a36 => if lg_cmp (gJ M35 830 a36) (0 : Int64) < 0 then some (some (pI 0), M35) else rd (some m) 12 M35 fun a37 => rd (some m) 12 M35 fun a38 => ix 20 30 (gR M35 802 a37) ((gJ M35 830 a38).toInt32) M35 fun a39 j40 => rd (some m) 12 M35 fun a41 => ix 20 30 (gR M35 777 a41) (nI (6 * r + p)) M35 fun a42 j43 => rd (some m) 12 M35 fun a45 => clI (ex 174 3 [pR (some a45), pI (aI M35 a39 j40), pI (aI M35 a42 j43)] M35) fun r46 M44 => if ¬ r46 = 0 then some (some (pI 0), M44) else some (some (pI 6), M44) else some (some (pI r8), M6)) = rr) : ex 223 4 [pR (some m), pI (nI (6 * r + p)), pI (nI (6 * l + pk))] M = rr := by
  obtain ⟨mB, -, mR, -, -, -, -, -⟩ := id hM
  have hrl : r < R.length := (List.getElem?_eq_some_iff.mp hrc).1
  have hr6 := mR.2.1
  obtain ⟨⟨z1, z2, z3⟩, -⟩ := mR.2.2.1 r rc hrc
  have hp : p < rc.1.length := (List.getElem?_eq_some_iff.mp hs).1
  rw [tX12_comes]
  refine rd_i rfl mB.k (ix_m (n := 6 * r + p) mB.a9 rfl (by omega) (by omega) (rd_i rfl mB.k ?_))
  rw [(z3 p s hs).2.2.2]
  exact bd_i (it_t (nI_m1 (by omega)) (rd_i rfl mB.k hr))
/-- the head of brings, where neither is a number -/
theorem m_brings_head {m r p l pk : Nat} {rc : TR} {s : TP} {q : TL} {t : TQ} (hM : MI m E R F W O T S M) (hrc : R[r]? = some rc) (hs : rc.1[p]? = some s) (hq : T[l]? = some q) (ht : q.2.2.1[pk]? = some t) (hgs : gsP t s) (h8 : 8 ≤ t.2.1) (hsr : 8 ≤ s.2.1) : ex 219 10 [pR (some m), pI (nI (6 * r + p)), pI (nI (6 * l + pk))] M = rn PP 219 154 [some (pR (some m)), some (pI (nI (6 * r + p))), some (pI (nI (6 * l + pk))), some (pI s.2.1), some (pI t.2.1), some (pJ (aJ M (m + 37) (6 * l + pk))), none, none, none, none] [] M := by
  obtain ⟨mB, -, mR, -, -, -, mL, -⟩ := id hM
  have hrl : r < R.length := (List.getElem?_eq_some_iff.mp hrc).1
  have hr6 := mR.2.1
  obtain ⟨⟨z1, z2, z3⟩, -⟩ := mR.2.2.1 r rc hrc
  have hp : p < rc.1.length := (List.getElem?_eq_some_iff.mp hs).1
  have hl : l < T.length := (List.getElem?_eq_some_iff.mp hq).1
  have hpk : pk < q.2.2.1.length := (List.getElem?_eq_some_iff.mp ht).1
  have h64 := mL.2.1
  obtain ⟨y1, -, -, -, -, y6⟩ := mL.2.2 l q hq
  obtain ⟨p1, p2, p3, -⟩ := y6 pk t ht
  have c22 : ∀ (v : Int64), (t.2.1 = 11 ∨ t.2.2.1 = s.2.2.1) → rn PP 219 122 [some (pR (some m)), some (pI (nI (6 * r + p))), some (pI (nI (6 * l + pk))), some (pI s.2.1), some (pI t.2.1), some (pJ v), none, none, none, none] [pI 1] M = rn PP 219 154 [some (pR (some m)), some (pI (nI (6 * r + p))), some (pI (nI (6 * l + pk))), some (pI s.2.1), some (pI t.2.1), some (pJ v), none, none, none, none] [] M := fun v h => by
    rw [tX12_brings_122]
    refine it_f (by decide) ?_
    by_cases h11 : t.2.1 = 11
    · exact it_t h11 rfl
    · exact it_f h11 (rd_i rfl mB.k (ix_m (n := 6 * l + pk) mB.a36 rfl (by omega) (by omega) (rd_i rfl mB.k (ix_m (n := 6 * r + p) mB.a8 rfl (by omega) (by omega) (it_t (by rw [p3 h8, (z3 p s hs).2.2.1]; exact h.resolve_left h11) rfl)))))
  have n8 : ¬ t.2.1 < 8 := ge8.mp h8
  rw [tX12_brings]
  refine rd_i rfl mB.k (ix_m (n := 6 * r + p) mB.a7 rfl (by omega) (by omega) (rd_i rfl mB.k (ix_m (n := 6 * l + pk) mB.a35 rfl (by omega) (by omega) (rd_i rfl mB.k (ix_m (n := 6 * l + pk) mB.a37 rfl (by omega) (by omega) ?_)))))
  rw [(z3 p s hs).2.1, p2]
  refine it_f n8 (it_t hsr ?_)
  unfold gsP at hgs
  by_cases he : t.2.1 = s.2.1
  · rw [if_pos he] at hgs
    refine it_t he ?_
    rw [tX12_brings_117]
    exact c22 _ (hgs.resolve_left n8)
  · rw [if_neg he] at hgs
    refine it_f he ?_
    by_cases h89 : t.2.1 = 8 ∧ s.2.1 = 9
    · rw [if_pos h89] at hgs
      refine it_f (not_not_intro h89.1) (it_f (not_not_intro h89.2) ?_)
      rw [tX12_brings_117]
      exact c22 _ (Or.inr hgs)
    · rw [if_neg h89] at hgs
      exfalso
      obtain ⟨g1, g2, g3, g4⟩ := hgs
      have : s.2.1.toNatClampNeg ≤ 7 := g3
      have e8 : (8 : Int32).toInt = 8 := rfl
      rw [I32_le] at hsr
      have : s.2.1.toNatClampNeg = s.2.1.toInt.toNat := rfl
      omega
end OPS
