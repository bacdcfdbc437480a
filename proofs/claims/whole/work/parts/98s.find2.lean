/-! CALLS: word, range -/
section OPS
variable {x : Nat} {E E' : List TE} {R R' : List TR} {F F' : List TF} {W W' : List TW} {O O' : List TO} {T T' : List TL} {S S' : TS} {jW jO jW' jO' n : Nat} {M M' M1 : Mem}
theorem hasL_none {q : TL} {part : Int64} {oc : Int32 → Bool} {P : Int64 → Bool} (h : fndQ q.2.2.1 part 0 = none) : hasL q part oc P = false := by
  unfold hasL
  rw [h]
theorem hasL_some {q : TL} {part : Int64} {oc : Int32 → Bool} {P : Int64 → Bool} {p : Nat} {t : TQ} (h : fndQ q.2.2.1 part 0 = some p) (ht : q.2.2.1[p]? = some t) : hasL q part oc P = (isNm t && (oc t.2.2.1 && t.2.2.2.2.1.any P)) := by
  unfold hasL
  rw [h]
  show (match q.2.2.1[p]? with | none => false | some t => isNm t && (oc t.2.2.1 && t.2.2.2.2.1.any P)) = _
  rw [ht]
/-- flags of the lines before k -/
def FlG (as : List Nat) (T : List TL) (g : TL → Bool) (k : Nat) (M : Mem) : Prop := ∀ (j a : Nat) (q : TL), j < k → as[j]? = some a → T[j]? = some q → gI M 390 a = b32 (g q)
theorem FlG.step {as : List Nat} {ad : Nat → Nat → Nat} {g : TL → Bool} {k a : Nat} {q : TL} {v : Int32} (h : FlG as T g k M) (hX : XLa x M as ad T) (ha : as[k]? = some a) (hq : T[k]? = some q) (hv : v = b32 (g q)) : FlG as T g (k + 1) (sI M 390 a v) := by
  intro j b r hj hb hr
  rw [gI_sI]
  by_cases e : j = k
  · subst e
    rw [ha] at hb
    cases hb
    rw [hq] at hr
    cases hr
    rw [up2_at]
    exact hv
  · rw [up2_no (fun z => e (hX.2.1 j k a (by rw [← z]; exact hb) ha))]
    exact h j b r (by omega) hb hr
theorem c_word {part nm : Int64} {i : Int32} (hX : XI x E R F W O T S jW jO M) : ∃ M', ex 103 8 [pR (some x), pJ part, pJ nm, pI i] M = some (some (pI (fdl (T.map (fun q => hasL q part (fun _ => true) (fun v => decide (v = nm)))) i 0 0)), M') ∧ GI (fun j _ => j = 390) M M' := by
  obtain ⟨⟨hB, hv, hL⟩, -, -, -, -, -, ⟨as, ad, hT⟩, -⟩ := id hX
  have hT : XLa x M as ad T := hT
  have hl := hT.len
  have key : ∀ (c k : Nat) (M1 : Mem), c + k = T.length → GI (fun j _ => j = 390) M M1 → FlG as T (fun q => hasL q part (fun _ => true) (fun v => decide (v = nm))) k M1 → ∃ M', rn PP 103 3 [some (pR (some x)), some (pJ part), none, some (pJ nm), none, some (pI i), some (pI (nI k)), none] [] M1 = some (some (pI (fdl (T.map (fun q => hasL q part (fun _ => true) (fun v => decide (v = nm)))) i 0 0)), M') ∧ GI (fun j _ => j = 390) M M' := by
    intro c
    induction c with
    | zero =>
      intro k M1 hk hg hf
      have f : Fr x (fun k => k = 390) No No No 0 M M1 := hg.fr hv hL (fun k a q => by omega)
      have hB1 := hB.fr f (by decide) (fun _ _ => id)
      have hT1 := hT.gi hg hv hL (fun k a q => by subst q; decide)
      refine ⟨M1, ?_, hg⟩
      rw [tX11_word_3]
      exact rd_i rfl hB1.k (rd_i hB1.r10.1 hB1.r10.2 (clI_i hT1.size (it_t (nI_le (by omega) (by omega)) (rd_i rfl hB1.k (clI_i (c_foundLine hB1 hT1 (fun k a q h1 h2 => hf k a q (by have := (List.getElem?_eq_some_iff.mp h2).1; omega) h1 h2) i) rfl)))))
    | succ c ih =>
      intro k M1 hk hg hf
      have f : Fr x (fun k => k = 390) No No No 0 M M1 := hg.fr hv hL (fun k a q => by omega)
      have hB1 := hB.fr f (by decide) (fun _ _ => id)
      have hT1 := hT.gi hg hv hL (fun k a q => by subst q; decide)
      obtain ⟨q, hq⟩ : ∃ q, T[k]? = some q := ⟨_, List.getElem?_eq_getElem (by omega)⟩
      obtain ⟨a, ga, g1, g2, g3⟩ := hT1.at hq
      have e60 := c_keptAs g3 part
      have next : ∀ v : Int32, v = b32 (hasL q part (fun _ => true) (fun v => decide (v = nm))) → ∃ M', rn PP 103 3 [some (pR (some x)), some (pJ part), none, some (pJ nm), none, some (pI i), some (pI (nI k + 1)), none] [] (sI M1 390 a v) = some (some (pI (fdl (T.map (fun q => hasL q part (fun _ => true) (fun v => decide (v = nm)))) i 0 0)), M') ∧ GI (fun j _ => j = 390) M M' := fun v hv' => by
        rw [nI_1]
        exact ih (k + 1) _ (by omega) (hg.sI rfl) (hf.step hT1 ga hq hv')
      have pre : ∀ {r14 : Option Nat}, (fndQ q.2.2.1 part 0).map (ad k) = r14 → rn PP 103 3 [some (pR (some x)), some (pJ part), none, some (pJ nm), none, some (pI i), some (pI (nI k)), none] [] M1 = (if r14 = none then rd (some a) 6 M1 fun a19 => zo 0 (bd (sI M1 390 a19 0) fun M20 => rn PP 103 3 [some (pR (some x)), some (pJ part), none, some (pJ nm), none, some (pI i), some (pI (nI k + 1)), none] [] M20) else rd r14 5 M1 fun a22 => clI (ex 56 4 [pR (some a22), pJ nm] M1) fun r23 M21 => if r23 = 0 then rd (some a) 6 M21 fun a24 => zo 0 (bd (sI M21 390 a24 0) fun M25 => rn PP 103 3 [some (pR (some x)), some (pJ part), none, some (pJ nm), none, some (pI i), some (pI (nI k + 1)), none] [] M25) else rd (some a) 6 M21 fun a26 => zo 1 (bd (sI M21 390 a26 1) fun M27 => rn PP 103 3 [some (pR (some x)), some (pJ part), none, some (pJ nm), none, some (pI i), some (pI (nI k + 1)), none] [] M27)) := fun {r14} e => by
        rw [tX11_word_3]
        rw [e] at e60
        exact rd_i rfl hB1.k (rd_i hB1.r10.1 hB1.r10.2 (clI_i hT1.size (it_f (nI_ge (by omega) (by omega)) (rd_i rfl hB1.k (rd_i hB1.r10.1 hB1.r10.2 (clR_i g1 (ck_s rfl g3.1 (rd_i rfl g3.1 (clR_i e60 (rd_i rfl hB1.k (rd_i hB1.r10.1 hB1.r10.2 (clR_i g1 (ck_s rfl g3.1 rfl)))))))))))))
      cases hf' : fndQ q.2.2.1 part 0 with
      | none =>
        obtain ⟨M', n1, n2⟩ := next 0 (by rw [hasL_none hf']; rfl)
        exact ⟨M', (pre (r14 := none) (by rw [hf']; rfl)).trans (it_t rfl (rd_i rfl g3.1 (zo_i (Or.inl rfl) (bd_i n1)))), n2⟩
      | some p =>
        obtain ⟨t, -, ht, -⟩ := fndQ_some _ _ _ hf'
        rw [Nat.sub_zero] at ht
        have hqq := hasL_some (oc := fun _ => true) (P := fun v => decide (v = nm)) hf' ht
        rw [Bool.true_and] at hqq
        obtain ⟨-, -, -, -, -, -, -, pq, -, -, -, -, g5⟩ := id g3
        obtain ⟨y1, y2, y3⟩ := g5 p t ht
        have e56 := c_hasWord hB1 y3 nm
        rw [← hqq] at e56
        cases hb : hasL q part (fun _ => true) (fun v => decide (v = nm)) with
        | false =>
          rw [hb] at e56
          obtain ⟨M', n1, n2⟩ := next 0 (by rw [hb]; rfl)
          exact ⟨M', (pre (r14 := some (ad k p)) (by rw [hf']; rfl)).trans (it_f (fun q => nomatch q) (rd_i rfl y3.1 (clI_i e56 (it_t rfl (rd_i rfl g3.1 (zo_i (Or.inl rfl) (bd_i n1))))))), n2⟩
        | true =>
          rw [hb] at e56
          obtain ⟨M', n1, n2⟩ := next 1 (by rw [hb]; rfl)
          exact ⟨M', (pre (r14 := some (ad k p)) (by rw [hf']; rfl)).trans (it_f (fun q => nomatch q) (rd_i rfl y3.1 (clI_i e56 (it_f (by decide) (rd_i rfl g3.1 (zo_i (Or.inr rfl) (bd_i n1))))))), n2⟩
  rw [tX11_word]
  exact key T.length 0 M (by omega) GI.rf (fun j a q hj => by omega)
end OPS
