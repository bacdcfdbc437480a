/-! RECORDS: the small methods -/
section RE
variable {x : Nat} {E : List TE} {R : List TR} {F : List TF} {M : Mem}
theorem c_recAt_no {e : Int32} (hB : XB x M) (hR : XR x M R) (h : oob e R.length) : ex 108 2 [pR (some x), pI e] M = some (some (pR none), M) := by
  rw [tX11_recordAt]
  rcases h with h | h
  · exact it_t h rfl
  · by_cases h0 : e < 0
    · exact it_t h0 rfl
    · exact it_f h0 (rd_i rfl hB.k (rd_i hB.r2.1 hB.r2.2 (clI_i hR.size (it_t h rfl))))
theorem c_recAt {k : Nat} {q : TR} (hB : XB x M) (hR : XR x M R) (hq : R[k]? = some q) : ∃ a, ex 108 2 [pR (some x), pI (nI k)] M = some (some (pR (some a)), M) ∧ x + 57 < a ∧ cR x M q a ∧
    (∀ (M' : Mem) (q' : TR), (∀ as, isL M (x + 2) as → isL M' (x + 2) as) → cR x M' q' a → (∀ q b, b ≠ a → x + 57 < b → cR x M q b → cR x M' q b) → XR x M' (R.set k q')) ∧ ex 16 2 [pR (some (x + 2)), pI (nI k)] M = some (some (pR (some a)), M) := by
  obtain ⟨a, h1, h2, h3, h4, -⟩ := isO.at hR hq
  have hk : k < R.length := (List.getElem?_eq_some_iff.mp hq).1
  have hl := isO.len hR
  refine ⟨a, ?_, h2, h3, fun M' q' g1 g2 g3 => h4 M' _ q' g1 g2 g3, h1⟩
  rw [tX11_recordAt]
  exact it_f (nI_pos (by omega)) (rd_i rfl hB.k (rd_i hB.r2.1 hB.r2.2 (clI_i hR.size (it_f (nI_ge hk (by omega)) (rd_i rfl hB.k (rd_i hB.r2.1 hB.r2.2 (clR_i h1 (ck_s rfl h3.1 rfl))))))))
theorem c_famAt_no {e : Int32} (hB : XB x M) (hF : XF x M F) (h : oob e F.length) : ex 109 2 [pR (some x), pI e] M = some (some (pR none), M) := by
  rw [tX11_familyAt]
  rcases h with h | h
  · exact it_t h rfl
  · by_cases h0 : e < 0
    · exact it_t h0 rfl
    · exact it_f h0 (rd_i rfl hB.k (rd_i hB.r3.1 hB.r3.2 (clI_i hF.size (it_t h rfl))))
theorem c_famAt {k : Nat} {q : TF} (hB : XB x M) (hF : XF x M F) (hq : F[k]? = some q) : ∃ a, ex 109 2 [pR (some x), pI (nI k)] M = some (some (pR (some a)), M) ∧ x + 57 < a ∧ cF M q a ∧
    (∀ (M' : Mem) (q' : TF), (∀ as, isL M (x + 3) as → isL M' (x + 3) as) → cF M' q' a → (∀ q b, b ≠ a → x + 57 < b → cF M q b → cF M' q b) → XF x M' (F.set k q')) ∧ ex 16 2 [pR (some (x + 3)), pI (nI k)] M = some (some (pR (some a)), M) := by
  obtain ⟨a, h1, h2, h3, h4, -⟩ := isO.at hF hq
  have hk : k < F.length := (List.getElem?_eq_some_iff.mp hq).1
  have hl := isO.len hF
  refine ⟨a, ?_, h2, h3, fun M' q' g1 g2 g3 => h4 M' _ q' g1 g2 g3, h1⟩
  rw [tX11_familyAt]
  exact it_f (nI_pos (by omega)) (rd_i rfl hB.k (rd_i hB.r3.1 hB.r3.2 (clI_i hF.size (it_f (nI_ge hk (by omega)) (rd_i rfl hB.k (rd_i hB.r3.1 hB.r3.2 (clR_i h1 (ck_s rfl h3.1 rfl))))))))
theorem c_partAt_no {a : Nat} {q : TR} {e : Int32} (hc : cR x M q a) (h : oob e q.1.length) : ex 65 2 [pR (some a), pI e] M = some (some (pR none), M) := by
  obtain ⟨h1, h2, h3, h4, h5, h6⟩ := hc
  rw [tX9_partAt]
  rcases h with h | h
  · exact it_t h rfl
  · by_cases h0 : e < 0
    · exact it_t h0 rfl
    · exact it_f h0 (rd_i rfl h1 (rd_i h2 h5.k (clI_i h5.size (it_t h rfl))))
theorem c_partAt {a p : Nat} {q : TR} {t : TP} (hc : cR x M q a) (ht : q.1[p]? = some t) : ∃ k, ex 65 2 [pR (some a), pI (nI p)] M = some (some (pR (some k)), M) ∧ x + 57 < k ∧ cP M t k ∧ ex 16 2 [pR (some (a + 1)), pI (nI p)] M = some (some (pR (some k)), M) := by
  obtain ⟨h1, h2, h3, h4, h5, h6⟩ := hc
  obtain ⟨k, g1, g2, g3, -⟩ := h5.at ht
  have hp : p < q.1.length := (List.getElem?_eq_some_iff.mp ht).1
  have hl := h5.len
  refine ⟨k, ?_, g2, g3, g1⟩
  rw [tX9_partAt]
  exact it_f (nI_pos (by omega)) (rd_i rfl h1 (rd_i h2 h5.k (clI_i h5.size (it_f (nI_ge hp (by omega)) (rd_i rfl h1 (rd_i h2 h5.k (clR_i g1 (ck_s rfl g3.1 rfl))))))))
/-- the place of a part's name, or -1 -/
def fndP : List TP → Int64 → Nat → Int32
  | [], _, _ => -1
  | q :: t, nm, i => if q.1 = nm then nI i else fndP t nm (i + 1)
theorem fndP_ne {nm : Int64} : ∀ (l : List TP) (i : Nat), i + l.length < 2147483648 → fndP l nm i = -1 ∨ ∃ j, fndP l nm i = nI j ∧ j < i + l.length := by
  intro l
  induction l with
  | nil => intro i _; exact Or.inl rfl
  | cons q t ih =>
    intro i hi
    simp only [List.length_cons] at hi
    simp only [fndP]
    by_cases h : q.1 = nm
    · rw [if_pos h]; exact Or.inr ⟨i, rfl, by simp only [List.length_cons]; omega⟩
    · rw [if_neg h]
      rcases ih (i + 1) (by omega) with z | ⟨j, z1, z2⟩
      · exact Or.inl z
      · exact Or.inr ⟨j, z1, by simp only [List.length_cons]; omega⟩
theorem nI_m1 {j : Nat} (h : j < 2147483648) : ¬ nI j = -1 := fun q => by
  have := congrArg Int32.toInt q
  rw [nI_toInt h] at this
  have z : (-1 : Int32).toInt = -1 := rfl
  omega
theorem c_hasPart {a : Nat} {q : TR} (hc : cR x M q a) (nm : Int64) : ex 66 4 [pR (some a), pJ nm] M = some (some (pI (if fndP q.1 nm 0 = -1 then 0 else 1)), M) := by
  obtain ⟨h1, h2, h3, h4, h6, -⟩ := hc
  have hl := h6.len
  have key : ∀ (n i : Nat), n + i = q.1.length → rn PP 66 2 [some (pR (some a)), some (pJ nm), none, some (pI (nI i))] [] M = some (some (pI (if fndP (q.1.drop i) nm i = -1 then 0 else 1)), M) := by
    intro n
    induction n with
    | zero =>
      intro i hi
      rw [tX9_hasPart_2]
      refine rd_i rfl h1 (rd_i h2 h6.k (clI_i h6.size (it_t (nI_le (by omega) (by omega)) (zo_i (Or.inl rfl) ?_))))
      rw [List.drop_of_length_le (by omega)]
      rfl
    | succ n ih =>
      intro i hi
      obtain ⟨r, hr, hd⟩ := drop_get (l := q.1) (i := i) (by omega)
      obtain ⟨k, g1, -, g3, -⟩ := h6.at hr
      rw [tX9_hasPart_2, hd]
      refine rd_i rfl h1 (rd_i h2 h6.k (clI_i h6.size (it_f (nI_ge (by omega) (by omega)) (rd_i rfl h1 (rd_i h2 h6.k (clR_i g1 (ck_s rfl g3.1 (rd_i rfl g3.1 ?_))))))))
      rw [g3.2.1]
      by_cases e : r.1 = nm
      · have hv : fndP (r :: q.1.drop (i + 1)) nm i = nI i := if_pos e
        rw [hv, if_neg (nI_m1 (by omega))]
        exact it_f (not_not_intro (cmp_eq0.mpr e)) (zo_i (Or.inr rfl) rfl)
      · have hv : fndP (r :: q.1.drop (i + 1)) nm i = fndP (q.1.drop (i + 1)) nm (i + 1) := if_neg e
        rw [hv]
        refine it_t (fun z => e (cmp_eq0.mp z)) ?_
        rw [nI_1]
        exact ih (i + 1) (by omega)
  rw [tX9_hasPart]
  have := key q.1.length 0 (by omega)
  rw [List.drop_zero] at this
  exact this
-- the model
theorem m_isRec_no {m : Nat} {e : Int32} (hB : MB m M) (hR : MR m M R) (h : oob e R.length) : ex 161 2 [pR (some m), pI e] M = some (some (pI 0), M) := by
  rw [tX12_isRecord]
  refine rd_i rfl hB.k ?_
  rw [hR.1]
  refine clI_i (m_in _ _ _ M) ?_
  have hl := hR.2.1
  rw [inB_no (by omega) h]
  exact zo_i (Or.inl rfl) rfl
theorem m_isRec {m k : Nat} (hB : MB m M) (hR : MR m M R) (h : k < R.length) : ex 161 2 [pR (some m), pI (nI k)] M = some (some (pI 1), M) := by
  rw [tX12_isRecord]
  refine rd_i rfl hB.k ?_
  rw [hR.1]
  refine clI_i (m_in _ _ _ M) ?_
  have hl := hR.2.1
  rw [inB_yes (by omega) h]
  exact zo_i (Or.inr rfl) rfl
theorem m_isFam_no {m : Nat} {e : Int32} (hB : MB m M) (hF : MF m M F) (h : oob e F.length) : ex 163 2 [pR (some m), pI e] M = some (some (pI 0), M) := by
  rw [tX12_isFamily]
  refine rd_i rfl hB.k ?_
  rw [hF.1]
  refine clI_i (m_in _ _ _ M) ?_
  have hl := hF.2.1
  rw [inB_no (by omega) h]
  exact zo_i (Or.inl rfl) rfl
theorem m_isFam {m k : Nat} (hB : MB m M) (hF : MF m M F) (h : k < F.length) : ex 163 2 [pR (some m), pI (nI k)] M = some (some (pI 1), M) := by
  rw [tX12_isFamily]
  refine rd_i rfl hB.k ?_
  rw [hF.1]
  refine clI_i (m_in _ _ _ M) ?_
  have hl := hF.2.1
  rw [inB_yes (by omega) h]
  exact zo_i (Or.inr rfl) rfl
theorem m_isPart_no0 {m : Nat} {e c : Int32} (mB : MB m M) (mR : MR m M R) (h : oob e R.length) : ex 162 3 [pR (some m), pI e, pI c] M = some (some (pI 0), M) := by
  rw [tX12_isPart]
  exact rd_i rfl mB.k (clI_i (m_isRec_no mB mR h) (it_t rfl (zo_i (Or.inl rfl) rfl)))
theorem m_isPart_no {m k : Nat} {c : Int32} {q : TR} (mB : MB m M) (mR : MR m M R) (hq : R[k]? = some q) (h : oob c q.1.length) : ex 162 3 [pR (some m), pI (nI k), pI c] M = some (some (pI 0), M) := by
  have hk : k < R.length := (List.getElem?_eq_some_iff.mp hq).1
  have h4 := mR.2.1
  obtain ⟨⟨g1, g2, -⟩, -⟩ := mR.2.2.1 k q hq
  rw [tX12_isPart]
  refine rd_i rfl mB.k (clI_i (m_isRec mB mR hk) (it_f (by decide) (rd_i rfl mB.k (ix_m mB.a5 rfl (by omega) (by omega) ?_))))
  rw [g2]
  refine clI_i (m_in _ _ _ M) ?_
  rw [inB_no (by omega) h]
  exact it_t rfl (zo_i (Or.inl rfl) rfl)
theorem m_isPart {m k c : Nat} {q : TR} (mB : MB m M) (mR : MR m M R) (hq : R[k]? = some q) (h : c < q.1.length) : ex 162 3 [pR (some m), pI (nI k), pI (nI c)] M = some (some (pI 1), M) := by
  have hk : k < R.length := (List.getElem?_eq_some_iff.mp hq).1
  have h4 := mR.2.1
  obtain ⟨⟨g1, g2, -⟩, -⟩ := mR.2.2.1 k q hq
  rw [tX12_isPart]
  refine rd_i rfl mB.k (clI_i (m_isRec mB mR hk) (it_f (by decide) (rd_i rfl mB.k (ix_m mB.a5 rfl (by omega) (by omega) ?_))))
  rw [g2]
  refine clI_i (m_in _ _ _ M) ?_
  rw [inB_yes (by omega) h]
  exact it_f (by decide) (zo_i (Or.inr rfl) rfl)
theorem m6 (a b : Nat) : (6 : Int32) * nI a + nI b = nI (6 * a + b) := by rw [show (6 : Int32) = nI 6 from rfl, nI_mul, nI_add]
theorem m4 (a b : Nat) : (4 : Int32) * nI a + nI b = nI (4 * a + b) := by rw [show (4 : Int32) = nI 4 from rfl, nI_mul, nI_add]
theorem m_partNamed {m e : Nat} {q : TR} (hB : MB m M) (hR : MR m M R) (hq : R[e]? = some q) (nm : Int64) : ex 178 5 [pR (some m), pI (nI e), pJ nm] M = some (some (pI (fndP q.1 nm 0)), M) := by
  obtain ⟨-, h2, h3, -⟩ := hR
  have he : e < R.length := (List.getElem?_eq_some_iff.mp hq).1
  obtain ⟨⟨g1, g2, g3⟩, -⟩ := h3 e q hq
  have key : ∀ (n i : Nat), n + i = q.1.length → rn PP 178 3 [some (pR (some m)), some (pI (nI e)), some (pJ nm), none, some (pI (nI i))] [] M = some (some (pI (fndP (q.1.drop i) nm i)), M) := by
    intro n
    induction n with
    | zero =>
      intro i hi
      rw [tX12_partNamed_3]
      refine rd_i rfl hB.k (ix_m hB.a5 rfl (by omega) (by omega) ?_)
      rw [g2]
      refine it_t (nI_le (by omega) (by omega)) ?_
      rw [List.drop_of_length_le (by omega)]
      rfl
    | succ n ih =>
      intro i hi
      obtain ⟨r, hr, hd⟩ := drop_get (l := q.1) (i := i) (by omega)
      obtain ⟨y1, y2, -⟩ := g3 i r hr
      rw [tX12_partNamed_3, hd]
      refine rd_i rfl hB.k (ix_m hB.a5 rfl (by omega) (by omega) ?_)
      rw [g2]
      refine it_f (nI_ge (by omega) (by omega)) (rd_i rfl hB.k (ix_m hB.a6 (m6 e i) (by omega) (by omega) ?_))
      rw [y1]
      show _ = some (some (pI (if r.1 = nm then nI i else fndP (q.1.drop (i + 1)) nm (i + 1))), M)
      by_cases c : r.1 = nm
      · rw [if_pos c]
        exact it_f (not_not_intro (cmp_eq0.mpr c)) rfl
      · rw [if_neg c]
        refine it_t (fun z => c (cmp_eq0.mp z)) ?_
        rw [nI_1]
        exact ih (i + 1) (by omega)
  rw [tX12_partNamed]
  have := key q.1.length 0 (by omega)
  rw [List.drop_zero] at this
  exact this
/-- is it a sort, with this 'of' -/
def isSrt (nE nF : Nat) (s o : Int32) : Prop := (0 ≤ s ∧ s ≤ 11) ∧ (s = 8 ∨ s = 9 → ¬ oob o nE) ∧ (s = 10 → 0 ≤ o ∧ o ≤ 7) ∧ (s = 11 → ¬ oob o nF)
theorem c_isSort {s o : Int32} (hB : XB x M) (hE : XE x M E) (hF : XF x M F) : (isSrt E.length F.length s o → ex 114 3 [pR (some x), pI s, pI o] M = some (some (pI 1), M)) ∧ (¬ isSrt E.length F.length s o → ex 114 3 [pR (some x), pI s, pI o] M = some (some (pI 0), M)) := by
  have hle := isO.len hE
  have hlf := isO.len hF
  rw [tX11_isSort]
  by_cases h0 : s < 0
  · refine ⟨fun h => absurd h.1.1 (fun z => by rw [I32_lt] at h0; rw [I32_le] at z; omega), fun _ => it_t h0 (zo_i (Or.inl rfl) rfl)⟩
  by_cases h11 : s ≤ 11
  · have hb : 0 ≤ s ∧ s ≤ 11 := ⟨by rw [I32_lt] at h0; rw [I32_le]; omega, h11⟩
    have enm : (s = 8 ∨ s = 9) → ∀ (Y : Option Nat → Option Rt), (oob o E.length ∧ ex 107 2 [pR (some x), pI o] M = some (some (pR none), M)) ∨ (¬ oob o E.length ∧ ∃ a, ex 107 2 [pR (some x), pI o] M = some (some (pR (some a)), M)) := by
      intro _ _
      rcases oob_or o E.length (by omega) with z | ⟨k, hk, rfl⟩
      · exact Or.inl ⟨z, c_enumAt_no hB hE z⟩
      · obtain ⟨a, y, -⟩ := c_enumAt hB hE (List.getElem?_eq_getElem hk)
        exact Or.inr ⟨fun z => by rcases z with z | z; exact nI_pos (by omega) z; exact nI_ge hk (by omega) z, a, y⟩
    have fnm : (oob o F.length ∧ ex 109 2 [pR (some x), pI o] M = some (some (pR none), M)) ∨ (¬ oob o F.length ∧ ∃ a, ex 109 2 [pR (some x), pI o] M = some (some (pR (some a)), M)) := by
      rcases oob_or o F.length (by omega) with z | ⟨k, hk, rfl⟩
      · exact Or.inl ⟨z, c_famAt_no hB hF z⟩
      · obtain ⟨a, y, -⟩ := c_famAt hB hF (List.getElem?_eq_getElem hk)
        exact Or.inr ⟨fun z => by rcases z with z | z; exact nI_pos (by omega) z; exact nI_ge hk (by omega) z, a, y⟩
    by_cases h8 : s = 8
    · rcases enm (Or.inl h8) (fun _ => none) with ⟨z1, z2⟩ | ⟨z1, a, z2⟩
      · exact ⟨fun h => absurd z1 (h.2.1 (Or.inl h8)), fun _ => it_f h0 (it_t h11 (it_t h8 (rd_i rfl hB.k (clR_i z2 (it_t rfl (zo_i (Or.inl rfl) rfl))))))⟩
      · exact ⟨fun _ => it_f h0 (it_t h11 (it_t h8 (rd_i rfl hB.k (clR_i z2 (it_f (fun q => nomatch q) (zo_i (Or.inr rfl) rfl)))))), fun h => absurd ⟨hb, fun _ => z1, fun w => absurd (h8.symm.trans w) (by decide), fun w => absurd (h8.symm.trans w) (by decide)⟩ h⟩
    by_cases h9 : s = 9
    · rcases enm (Or.inr h9) (fun _ => none) with ⟨z1, z2⟩ | ⟨z1, a, z2⟩
      · exact ⟨fun h => absurd z1 (h.2.1 (Or.inr h9)), fun _ => it_f h0 (it_t h11 (it_f h8 (it_t h9 (rd_i rfl hB.k (clR_i z2 (it_t rfl (zo_i (Or.inl rfl) rfl)))))))⟩
      · exact ⟨fun _ => it_f h0 (it_t h11 (it_f h8 (it_t h9 (rd_i rfl hB.k (clR_i z2 (it_f (fun q => nomatch q) (zo_i (Or.inr rfl) rfl))))))), fun h => absurd ⟨hb, fun _ => z1, fun w => absurd (h9.symm.trans w) (by decide), fun w => absurd (h9.symm.trans w) (by decide)⟩ h⟩
    by_cases h10 : s = 10
    · by_cases o0 : o < 0
      · exact ⟨fun h => absurd (h.2.2.1 h10).1 (fun z => by rw [I32_lt] at o0; rw [I32_le] at z; omega), fun _ => it_f h0 (it_t h11 (it_f h8 (it_f h9 (it_t h10 (it_t o0 (zo_i (Or.inl rfl) rfl))))))⟩
      · by_cases o7 : 7 < o
        · exact ⟨fun h => absurd (h.2.2.1 h10).2 (fun z => by rw [I32_lt] at o7; rw [I32_le] at z; omega), fun _ => it_f h0 (it_t h11 (it_f h8 (it_f h9 (it_t h10 (it_f o0 (it_t o7 (zo_i (Or.inl rfl) rfl)))))))⟩
        · exact ⟨fun _ => it_f h0 (it_t h11 (it_f h8 (it_f h9 (it_t h10 (it_f o0 (it_f o7 (zo_i (Or.inr rfl) rfl))))))), fun h => absurd ⟨hb, fun w => by rcases w with w | w; exact absurd w h8; exact absurd w h9, fun _ => ⟨by rw [I32_lt] at o0; rw [I32_le]; omega, by rw [I32_lt] at o7; rw [I32_le]; omega⟩, fun w => absurd (h10.symm.trans w) (by decide)⟩ h⟩
    by_cases he : s = 11
    · rcases fnm with ⟨z1, z2⟩ | ⟨z1, a, z2⟩
      · exact ⟨fun h => absurd z1 (h.2.2.2 he), fun _ => it_f h0 (it_t h11 (it_f h8 (it_f h9 (it_f h10 (it_t he (rd_i rfl hB.k (clR_i z2 (it_t rfl (zo_i (Or.inl rfl) rfl)))))))))⟩
      · exact ⟨fun _ => it_f h0 (it_t h11 (it_f h8 (it_f h9 (it_f h10 (it_t he (rd_i rfl hB.k (clR_i z2 (it_f (fun q => nomatch q) (zo_i (Or.inr rfl) rfl))))))))), fun h => absurd ⟨hb, fun w => by rcases w with w | w; exact absurd w h8; exact absurd w h9, fun w => absurd w h10, fun _ => z1⟩ h⟩
    exact ⟨fun _ => it_f h0 (it_t h11 (it_f h8 (it_f h9 (it_f h10 (it_f he (zo_i (Or.inr rfl) rfl)))))), fun h => absurd ⟨hb, fun w => by rcases w with w | w; exact absurd w h8; exact absurd w h9, fun w => absurd w h10, fun w => absurd w he⟩ h⟩
  · exact ⟨fun h => absurd h.1.2 h11, fun _ => it_f h0 (it_f h11 (zo_i (Or.inl rfl) rfl))⟩
end RE
