/-! CALLS on records: part -/
theorem shp_idem (s : Int32) (v : Int64) : shp s (shp s v) = shp s v := by
  unfold shp
  by_cases h0 : s = 0
  · simp only [if_pos h0]
    by_cases hv : v = 0
    · rw [if_pos hv]; rfl
    · rw [if_neg hv]; rfl
  simp only [if_neg h0]
  by_cases h1 : s = 1
  · simp only [if_pos h1]; simp
  simp only [if_neg h1]
  by_cases h2 : s = 2
  · simp only [if_pos h2]; simp
  simp only [if_neg h2]
  by_cases h3 : s = 3
  · simp only [if_pos h3]
    have e : ∀ u : UInt32, (u % 65536) % 65536 = u % 65536 := fun u => UInt32.toNat_inj.mp (by simp)
    simp [e]
  simp only [if_neg h3]
  by_cases h4 : s = 4
  · simp only [if_pos h4]; simp
  simp only [if_neg h4]
  by_cases h5 : s = 5
  · simp only [if_pos h5]
  simp only [if_neg h5]
  by_cases h6 : s = 6
  · simp only [if_pos h6]
    by_cases hv : (v.toInt32 &&& 2147483647) ≤ 2139095040
    · simp only [if_pos hv, Int32.toInt32_toInt64]
    · rw [if_neg hv]; rfl
  simp only [if_neg h6]
  by_cases h7 : s = 7
  · simp only [if_pos h7]
    by_cases hv : (v &&& 9223372036854775807) ≤ (9218868437227405312 : Int64)
    · simp only [if_pos hv]
    · rw [if_neg hv]; rfl
  simp only [if_neg h7]
/-- 'of' and standard as they are kept -/
def nrm (s o : Int32) : Int32 := if 8 ≤ s then o else 0
def stdV (s : Int32) (v : Int64) : Int64 := if 8 ≤ s then (if s = 9 then 0 else -1) else shp s v
theorem ge8 {s : Int32} : 8 ≤ s ↔ ¬ s < 8 := by rw [I32_le, I32_lt]; omega
theorem gt7 {s : Int32} : 7 < s ↔ 8 ≤ s := by
  rw [I32_le, I32_lt]
  have : (7 : Int32).toInt = 7 := rfl
  have : (8 : Int32).toInt = 8 := rfl
  omega
theorem stdOK_V (s : Int32) (v : Int64) : stdOK s (stdV s v) := by
  unfold stdOK stdV
  refine ⟨fun h => ?_, fun h => ?_, fun h => ?_⟩
  · rw [if_neg (fun z => ge8.mp z h)]; exact shp_idem s v
  · subst h; rfl
  · rcases h with h | h | h <;> subst h <;> rfl
theorem srtOK_of {nE nF : Nat} {s o : Int32} (hE : nE < 2147483648) (hF : nF < 2147483648) (h : isSrt nE nF s o) : srtOK nE nF s (nrm s o) := by
  have hn : 8 ≤ s → nrm s o = o := fun z => if_pos z
  refine ⟨h.1, fun z => if_neg (fun w => ge8.mp w z), fun z => ?_, fun z => ?_, fun z => ?_⟩
  · rw [hn (by rcases z with z | z <;> subst z <;> decide)]
    rcases oob_or o nE hE with w | ⟨k, w1, w2⟩
    · exact absurd w (h.2.1 z)
    · exact ⟨k, w1, w2⟩
  · rw [hn (by subst z; decide)]
    obtain ⟨w1, w2⟩ := h.2.2.1 z
    rcases oob_or o 8 (by omega) with w | ⟨k, w3, w4⟩
    · exfalso
      have i7 : (7 : Int32).toInt = 7 := rfl
      have i0 : (0 : Int32).toInt = 0 := rfl
      have i8 : (nI 8).toInt = 8 := rfl
      rw [I32_le] at w1 w2
      rcases w with w | w
      · rw [I32_lt] at w; omega
      · rw [I32_le] at w; omega
    · exact ⟨k, w3, w4⟩
  · rw [hn (by subst z; decide)]
    rcases oob_or o nF hF with w | ⟨k, w1, w2⟩
    · exact absurd w (h.2.2.2 z)
    · exact ⟨k, w1, w2⟩
section OPR
variable {x : Nat} {E E' : List TE} {R R' : List TR} {F F' : List TF} {W W' : List TW} {O O' : List TO} {T T' : List TL} {S S' : TS} {jW jO jW' jO' n : Nat} {M M1 : Mem}
/-- new Part -/
theorem part_init {Ma : Mem} {a : Nat} {K L AI AJ : Nat → Prop} {nm std : Int64} {s o : Int32} (f : Fr x K L AI AJ n M Ma) (haM : mT M ≤ a) (hk : kd Ma a = 8) : ∃ Mc, ex 63 7 [pR (some a), pJ nm, pI s, pI o, pJ std] Ma = some (none, Mc) ∧ Fr x K L AI AJ n M Mc ∧ cP Mc (nm, s, nrm s o, stdV s std) a ∧ (∀ k b, b ≠ a → gR Mc k b = gR Ma k b ∧ gI Mc k b = gI Ma k b ∧ gJ Mc k b = gJ Ma k b) ∧ kd Mc = kd Ma ∧ mT Mc = mT Ma := by
  have key : ∀ v : Int64, v = stdV s std → Fr x K L AI AJ n M (sJ (sI (sI (sJ Ma 512 a nm) 513 a s) 514 a o) 515 a v) ∧ cP (sJ (sI (sI (sJ Ma 512 a nm) 513 a s) 514 a o) 515 a v) (nm, s, nrm s o, stdV s std) a ∧ (∀ k b, b ≠ a → gR (sJ (sI (sI (sJ Ma 512 a nm) 513 a s) 514 a o) 515 a v) k b = gR Ma k b ∧ gI (sJ (sI (sI (sJ Ma 512 a nm) 513 a s) 514 a o) 515 a v) k b = gI Ma k b ∧ gJ (sJ (sI (sI (sJ Ma 512 a nm) 513 a s) 514 a o) 515 a v) k b = gJ Ma k b) ∧ kd (sJ (sI (sI (sJ Ma 512 a nm) 513 a s) 514 a o) 515 a v) = kd Ma ∧ mT (sJ (sI (sI (sJ Ma 512 a nm) 513 a s) 514 a o) 515 a v) = mT Ma := by
    intro v hv
    subst hv
    refine ⟨(((f.bJ (Or.inr haM)).bI (Or.inr haM)).bI (Or.inr haM)).bJ (Or.inr haM), ⟨?_, ?_, ?_, fun z => ?_, ?_⟩, fun k b hb => ⟨?_, ?_, ?_⟩, ?_, ?_⟩
    · simp only [kd_sJ, kd_sI]; exact hk
    · simp only [gJ_sJ, gJ_sI]; rw [up2_ne (by decide), up2_at]
    · simp only [gI_sJ, gI_sI]; rw [up2_ne (by decide), up2_at]
    · simp only [gI_sJ, gI_sI]; rw [up2_at]; exact (if_pos z).symm
    · simp only [gJ_sJ, gJ_sI]; rw [up2_at]
    · simp only [gR_sJ, gR_sI]
    · simp only [gI_sJ, gI_sI]; rw [up2_no hb, up2_no hb]
    · simp only [gJ_sJ, gJ_sI]; rw [up2_no hb, up2_no hb]
    · simp only [kd_sJ, kd_sI]
    · simp only [mT_sJ, mT_sI]
  have k1 : kd (sJ Ma 512 a nm) a = 8 := hk
  have k2 : kd (sI (sJ Ma 512 a nm) 513 a s) a = 8 := by rw [kd_sI]; exact k1
  have k3 : kd (sI (sI (sJ Ma 512 a nm) 513 a s) 514 a o) a = 8 := by rw [kd_sI]; exact k2
  by_cases h8 : 8 ≤ s
  · by_cases h9 : s = 9
    · have hv : (0 : Int64) = stdV s std := by unfold stdV; rw [if_pos h8, if_pos h9]
      refine ⟨_, ?_, key 0 hv⟩
      rw [tX8_init]
      exact nn_i rfl (rd_i rfl hk (bd_i (rd_i rfl k1 (bd_i (rd_i rfl k2 (bd_i (it_t (gt7.mpr h8) (it_f (not_not_intro h9) (rd_i rfl k3 (bd_i rfl))))))))))
    · have hv : (-1 : Int64) = stdV s std := by unfold stdV; rw [if_pos h8, if_neg h9]
      refine ⟨_, ?_, key (-1) hv⟩
      rw [tX8_init]
      exact nn_i rfl (rd_i rfl hk (bd_i (rd_i rfl k1 (bd_i (rd_i rfl k2 (bd_i (it_t (gt7.mpr h8) (it_t h9 (rd_i rfl k3 (bd_i rfl))))))))))
  · have hv : shp s std = stdV s std := by unfold stdV; rw [if_neg h8]
    refine ⟨_, ?_, key (shp s std) hv⟩
    rw [tX8_init]
    exact nn_i rfl (rd_i rfl hk (bd_i (rd_i rfl k1 (bd_i (rd_i rfl k2 (bd_i (it_f (fun z => h8 (gt7.mp z)) (clJ_i (c_shaped s std _) (rd_i rfl k3 (bd_i rfl))))))))))
/-- a record's parts, checks, flag are others -/
theorem c_rset {k a : Nat} {q q' : TR} {M' : Mem} {K : Nat → Prop} (hv : PIv x M) (hc : cR x M q a) (hx : x + 57 < a) (f : Fr x K (fun l => l = a + 1 ∨ l = a + 2) No No n M M') (hK : ∀ k ∈ [512, 513, 514, 515, 64, 65, 66, 67, 576, 577, 578], ¬ K k) (h2 : q'.2.2 = q.2.2) (hl : isO M' x (a + 1) (cP M') q'.1) (hl2 : isO M' x (a + 2) (cK M') q'.2.1) (hcl : ∀ (M' : Mem) (q' : TR), (∀ as, isL M (x + 2) as → isL M' (x + 2) as) → cR x M' q' a → (∀ q b, b ≠ a → x + 57 < b → cR x M q b → cR x M' q b) → XR x M' (R.set k q')) : cR x M' q' a ∧ XR x M' (R.set k q') := by
  have ha := lt_of_kd hv hc.1 (by omega)
  have ka1 := hc.2.2.2.2.1.k
  have ka2 := hc.2.2.2.2.2.k
  obtain ⟨c1, c2, c3, c4, c5, c6⟩ := hc
  have cn : cR x M' q' a := ⟨by rw [f.fk ha]; exact c1, by rw [f.fR (by omega) ha (hK 576 (by decide))]; exact c2, by rw [f.fR (by omega) ha (hK 577 (by decide))]; exact c3, by rw [f.fI (by omega) ha (hK 578 (by decide)), h2]; exact c4, hl, hl2⟩
  refine ⟨cn, hcl M' _ (f.ls (fun q => by omega)) cn (fun r d hne hd hr => hr.fr f hK ⟨fun q => ?_, fun q => ?_⟩)⟩
  · rcases q with q | q
    · omega
    · have : d = a + 1 := by omega
      rw [this] at hr
      have := hr.1
      omega
  · rcases q with q | q
    · have : a = d + 1 := by omega
      have := hr.2.2.2.2.1.k
      rw [show d + 1 = a by omega] at this
      omega
    · omega
theorem wfR_set {nE nF k : Nat} {q' : TR} (h : wfR nE nF R) (hq : (∀ (p : Nat) (t : TP), q'.1[p]? = some t → srtOK nE nF t.2.1 t.2.2.1 ∧ stdOK t.2.1 t.2.2.2) ∧ ∀ (k : Nat) (c : TK), q'.2.1[k]? = some c → ∃ t : TP, q'.1[c.1]? = some t ∧ chkOK c.2.1 t.2.1) : wfR nE nF (R.set k q') := by
  intro r q hr
  rw [List.getElem?_set] at hr
  by_cases e1 : k = r
  · rw [if_pos e1] at hr
    split at hr
    · cases hr
      exact hq
    · cases hr
  · rw [if_neg e1] at hr
    exact h r q hr
/-- setSort -/
theorem m_setSort {m J : Nat} {s o : Int32} (mB : MB m M) (hJ : J < 36) : ex 180 4 [pR (some m), pI (nI J), pI s, pI o] M = some (none, wJ (wI (wI M (m + 7) J s) (m + 8) J (nrm s o)) (m + 9) J (stdV s 0)) := by
  rw [tX12_setSort]
  refine rd_i rfl mB.k (ix_m mB.a7 rfl (by omega) (by omega) (bd_i ?_))
  have mB1 : MB m (wI M (m + 7) J s) := mB.wI
  generalize wI M (m + 7) J s = M1 at mB1 ⊢
  refine rd_i rfl mB1.k ?_
  by_cases h8 : 8 ≤ s
  · have e1 : nrm s o = o := if_pos h8
    rw [e1]
    refine it_t h8 (ix_m mB1.a8 rfl (by omega) (by omega) (bd_i ?_))
    have mB2 : MB m (wI M1 (m + 8) J o) := mB1.wI
    generalize wI M1 (m + 8) J o = M2 at mB2 ⊢
    refine rd_i rfl mB2.k (it_t h8 ?_)
    by_cases h9 : s = 9
    · have e2 : stdV s 0 = 0 := by unfold stdV; rw [if_pos h8, if_pos h9]
      rw [e2]
      exact it_f (not_not_intro h9) (ix_m mB2.a9 rfl (by omega) (by omega) (bd_i rfl))
    · have e2 : stdV s 0 = -1 := by unfold stdV; rw [if_pos h8, if_neg h9]
      rw [e2]
      exact it_t h9 (ix_m mB2.a9 rfl (by omega) (by omega) (bd_i rfl))
  · have e1 : nrm s o = 0 := if_neg h8
    rw [e1]
    refine it_f h8 (ix_m mB1.a8 rfl (by omega) (by omega) (bd_i ?_))
    have mB2 : MB m (wI M1 (m + 8) J 0) := mB1.wI
    generalize wI M1 (m + 8) J 0 = M2 at mB2 ⊢
    refine rd_i rfl mB2.k (it_f h8 (clJ_i (m_shaped s 0 M2) (ix_m mB2.a9 rfl (by omega) (by omega) (bd_i ?_))))
    have e2 : stdV s 0 = shp s 0 := by unfold stdV; rw [if_neg h8]
    rw [e2]
end OPR
