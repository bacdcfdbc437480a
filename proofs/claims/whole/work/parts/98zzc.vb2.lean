/-! LOADING: what a part becomes, sort by sort -/
section OPS
variable {x : Nat} {E E' : List TE} {R R' : List TR} {F F' : List TF} {W W' : List TW} {O O' : List TO} {T T' : List TL} {S S' : TS} {jW jO jW' jO' n : Nat} {M M' M1 : Mem}
theorem or0 (v : Int64) : (0 : Int64) ||| v = v := by
  apply N64_inj
  rw [N64_or]
  show 0 ||| N64 v = N64 v
  exact Nat.zero_or _
/-- a part of no object: comes ends with brings -/
theorem m_comes_end {m r p l pk : Nat} {rc : TR} {s : TP} {c : Int32} (hM : MI m E R F W O T S M) (hM' : MI m E' R F W' O T' S' M') (hrc : R[r]? = some rc) (hs : rc.1[p]? = some s) (hlk : 6 * l + pk < 384) (h11 : ¬ s.2.1 = 11) (h : ex 219 10 [pR (some m), pI (nI (6 * r + p)), pI (nI (6 * l + pk))] (sJ M 830 m s.2.2.2) = some (some (pI c), M')) : ex 223 4 [pR (some m), pI (nI (6 * r + p)), pI (nI (6 * l + pk))] M = some (some (pI c), M') := by
  obtain ⟨mB', -, mR', -, -, -, -, -⟩ := id hM'
  have hrl : r < R.length := (List.getElem?_eq_some_iff.mp hrc).1
  have hr6 := mR'.2.1
  obtain ⟨⟨z1, z2, z3⟩, -⟩ := mR'.2.2.1 r rc hrc
  have hp : p < rc.1.length := (List.getElem?_eq_some_iff.mp hs).1
  refine m_comes_head hM hrc hs hlk (clI_i h ?_)
  by_cases c0 : c = 0
  · subst c0
    exact it_f (not_not_intro rfl) (rd_i rfl mB'.k (ix_m (n := 6 * r + p) mB'.a7 rfl (by omega) (by omega) (it_f (by rw [(z3 p s hs).2.1]; exact h11) rfl)))
  · exact it_t c0 rfl
/-- constants: the model's way from 191 on -/
theorem m_br191 {m : Nat} {so : Int32} {v : Int64} {c : Int32} (hM : MI m E R F W O T S M) : ((v < 0 ∨ ¬ c = -1) → ∃ M', rn PP 219 191 [some (pR (some m)), none, none, some (pI so), none, some (pJ v), none, none, none, none] [pI c] M = some (some (pI 0), M') ∧ CU m M M' ∧ MI m E R F W O T S M' ∧ AtH m M M' ∧ gJ M' 830 m = (if so = 8 then c.toInt64 else if c = -1 then 0 else (1 : Int64) <<< (c.toInt64 &&& 63))) ∧ ((¬ v < 0 ∧ c = -1) → ∃ M', rn PP 219 191 [some (pR (some m)), none, none, some (pI so), none, some (pJ v), none, none, none, none] [pI c] M = some (some (pI (if so = 8 then 8 else 0)), M') ∧ CU m M M' ∧ MI m E R F W O T (if so = 9 then lfo S else S) M' ∧ AtH m M M' ∧ gJ M' 830 m = (if so = 8 then c.toInt64 else 0)) := by
  obtain ⟨mB, -, -, -, -, -, -, mS⟩ := id hM
  have tail : ∀ (S2 : TS) (M2 : Mem) (l9 : Int32), MI m E R F W O T S2 M2 → ∃ M', (if ¬ so = 8 then if ¬ c = (-1) then rn PP 219 265 [none, none, none, some (pI so), none, none, none, none, none, some (pI l9)] [pJ ((1 : Int64) <<< (c.toInt64 &&& 63)), pR (some m)] M2 else rn PP 219 265 [none, none, none, some (pI so), none, none, none, none, none, some (pI l9)] [pJ (0 : Int64), pR (some m)] M2 else rn PP 219 265 [none, none, none, some (pI so), none, none, none, none, none, some (pI l9)] [pJ c.toInt64, pR (some m)] M2) = some (some (pI (if l9 = 0 then 0 else if so = 8 then 8 else 0)), M') ∧ CU m M2 M' ∧ MI m E R F W O T S2 M' ∧ AtH m M2 M' ∧ gJ M' 830 m = (if so = 8 then c.toInt64 else if c = -1 then 0 else (1 : Int64) <<< (c.toInt64 &&& 63)) := fun S2 M2 l9 h2 => by
    have e265 : ∀ b : Int64, rn PP 219 265 [none, none, none, some (pI so), none, none, none, none, none, some (pI l9)] [pJ b, pR (some m)] M2 = some (some (pI (if l9 = 0 then 0 else if so = 8 then 8 else 0)), sJ M2 830 m b) := fun b => by
      rw [tX12_brings_265]
      refine rd_i rfl h2.1.k (bd_i ?_)
      by_cases c9 : l9 = 0
      · rw [if_pos c9, if_pos c9, tX12_brings_284, tX12_brings_285]
      · rw [if_neg c9, if_neg c9]
        by_cases c8 : so = 8
        · rw [if_pos c8]
          refine it_f (not_not_intro c8) ?_
          rw [tX12_brings_285]
        · rw [if_neg c8]
          refine it_t c8 ?_
          rw [tX12_brings_284, tX12_brings_285]
    by_cases c8 : so = 8
    · exact ⟨sJ M2 830 m c.toInt64, it_f (not_not_intro c8) (e265 _), CU.rf.bJ (by omega), h2.uz UZ.g830, AtH.rf.bJ, by rw [gJ_sJ, up2_at, if_pos c8]⟩
    · by_cases cm : c = -1
      · exact ⟨sJ M2 830 m 0, it_t c8 (it_f (not_not_intro cm) (e265 _)), CU.rf.bJ (by omega), h2.uz UZ.g830, AtH.rf.bJ, by rw [gJ_sJ, up2_at, if_neg c8, if_pos cm]⟩
      · exact ⟨sJ M2 830 m ((1 : Int64) <<< (c.toInt64 &&& 63)), it_t c8 (it_t cm (e265 _)), CU.rf.bJ (by omega), h2.uz UZ.g830, AtH.rf.bJ, by rw [gJ_sJ, up2_at, if_neg c8, if_neg cm]⟩
  have hz : MI m E R F W O T S (sI M 828 m (gI M 828 m + 0)) := hM.s828 S (by rw [mS.2.2.2.2.2.2.2, Int32.add_zero])
  have ho : MI m E R F W O T (lfo S) (sI M 828 m (gI M 828 m + 1)) := hM.s828 (lfo S) (by rw [mS.2.2.2.2.2.2.2]; rfl)
  have cu0 : ∀ w, CU m M (sI M 828 m w) := fun w => CU.rf.bI (by omega)
  have at0 : ∀ w, AtH m M (sI M 828 m w) := fun w => AtH.rf.bI
  refine ⟨fun h => ?_, fun h => ?_⟩
  · obtain ⟨M', t1, t2, t3, t4, t5⟩ := tail S _ 0 hz
    have e0 : (if (0 : Int32) = 0 then (0 : Int32) else if so = 8 then 8 else 0) = 0 := if_pos rfl
    rw [e0] at t1
    refine ⟨M', ?_, (cu0 _).tr t2, t3, (at0 _).tr t4, t5⟩
    have e210 : rn PP 219 210 [some (pR (some m)), none, none, some (pI so), none, none, none, none, some (pI c), none] [] M = some (some (pI 0), M') := by
      rw [tX12_brings_210, tX12_brings_211]
      refine rd_i rfl mB.k (it_t rfl ?_)
      rw [tX12_brings_233, tX12_brings_234]
      exact rd_i rfl mB.k (bd_i t1)
    rw [tX12_brings_191]
    by_cases v0 : v < 0
    · exact it_t (cmp_lt0.mpr v0) e210
    · exact it_f (fun z => v0 (cmp_lt0.mp z)) (it_t (h.resolve_left v0) e210)
  · by_cases c9 : so = 9
    · have c8 : ¬ so = 8 := by rw [c9]; decide
      obtain ⟨M', t1, t2, t3, t4, t5⟩ := tail (lfo S) _ 1 ho
      have e1 : (if (1 : Int32) = 0 then (0 : Int32) else if so = 8 then 8 else 0) = (if so = 8 then 8 else 0) := if_neg (by decide)
      have e2 : (if so = 8 then (8 : Int32) else 0) = 0 := if_neg c8
      have e3 : (if so = 9 then lfo S else S) = lfo S := if_pos c9
      have e4 : (if so = 8 then c.toInt64 else (0 : Int64)) = 0 := if_neg c8
      rw [e1, e2] at t1
      rw [if_neg c8, if_pos h.2] at t5
      rw [e2, e3, e4]
      refine ⟨M', ?_, (cu0 _).tr t2, t3, (at0 _).tr t4, t5⟩
      rw [tX12_brings_191]
      refine it_f (fun z => h.1 (cmp_lt0.mp z)) (it_f (not_not_intro h.2) ?_)
      rw [tX12_brings_211]
      refine rd_i rfl mB.k (it_f (by decide) (it_f (not_not_intro c9) ?_))
      rw [tX12_brings_234]
      exact rd_i rfl mB.k (bd_i t1)
    · obtain ⟨M', t1, t2, t3, t4, t5⟩ := tail S _ 1 hz
      have e1 : (if (1 : Int32) = 0 then (0 : Int32) else if so = 8 then 8 else 0) = (if so = 8 then 8 else 0) := if_neg (by decide)
      have e3 : (if so = 9 then lfo S else S) = S := if_neg c9
      rw [e1] at t1
      rw [e3]
      refine ⟨M', ?_, (cu0 _).tr t2, t3, (at0 _).tr t4, ?_⟩
      · rw [tX12_brings_191]
        refine it_f (fun z => h.1 (cmp_lt0.mp z)) (it_f (not_not_intro h.2) ?_)
        rw [tX12_brings_211]
        refine rd_i rfl mB.k (it_f (by decide) (it_t c9 ?_))
        rw [tX12_brings_233, tX12_brings_234]
        exact rd_i rfl mB.k (bd_i t1)
      · rw [t5]
        by_cases c8 : so = 8
        · rw [if_pos c8, if_pos c8]
        · rw [if_neg c8, if_neg c8, if_pos h.2]
end OPS
