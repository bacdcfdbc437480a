/-! THE MODEL'S STATE -/
def mtab : List (Nat × Nat × Nat × Nat) := [(769, 1, 20, 4), (770, 2, 21, 32), (771, 3, 22, 32), (772, 4, 22, 4), (774, 5, 20, 6), (775, 6, 21, 36), (776, 7, 20, 36), (777, 8, 20, 36), (778, 9, 21, 36), (779, 10, 20, 6), (780, 11, 20, 24), (781, 12, 20, 24), (782, 13, 21, 24), (783, 14, 21, 24), (785, 15, 20, 3), (786, 16, 20, 12), (787, 17, 20, 6), (789, 18, 20, 40), (795, 19, 22, 14), (796, 20, 22, 4), (797, 21, 20, 10), (799, 22, 20, 440), (800, 23, 20, 440), (801, 24, 21, 7040), (802, 25, 20, 164), (803, 26, 21, 984), (804, 27, 20, 164), (805, 28, 21, 6), (806, 29, 21, 6), (812, 30, 20, 164), (814, 31, 20, 64), (815, 32, 20, 64), (816, 33, 20, 64), (817, 34, 21, 384), (818, 35, 20, 384), (819, 36, 20, 384), (820, 37, 21, 384), (821, 38, 21, 6144), (822, 39, 20, 384), (823, 40, 20, 64), (824, 41, 20, 384), (825, 42, 20, 170), (826, 43, 20, 170), (827, 44, 22, 164), (829, 45, 21, 384)]
def MB (m : Nat) (M : Mem) : Prop := kd M m = 12 ∧ ∀ q ∈ mtab, gR M q.1 m = some (m + q.2.1) ∧ kd M (m + q.2.1) = q.2.2.1 ∧ ln M (m + q.2.1) = q.2.2.2
section MB
variable {m : Nat} {M : Mem}
theorem MB.k (h : MB m M) : kd M m = 12 := h.1
theorem MB.a1 (h : MB m M) : gR M 769 m = some (m + 1) ∧ kd M (m + 1) = 20 ∧ ln M (m + 1) = 4 := h.2 (769, 1, 20, 4) (by decide)
theorem MB.a2 (h : MB m M) : gR M 770 m = some (m + 2) ∧ kd M (m + 2) = 21 ∧ ln M (m + 2) = 32 := h.2 (770, 2, 21, 32) (by decide)
theorem MB.a3 (h : MB m M) : gR M 771 m = some (m + 3) ∧ kd M (m + 3) = 22 ∧ ln M (m + 3) = 32 := h.2 (771, 3, 22, 32) (by decide)
theorem MB.a4 (h : MB m M) : gR M 772 m = some (m + 4) ∧ kd M (m + 4) = 22 ∧ ln M (m + 4) = 4 := h.2 (772, 4, 22, 4) (by decide)
theorem MB.a5 (h : MB m M) : gR M 774 m = some (m + 5) ∧ kd M (m + 5) = 20 ∧ ln M (m + 5) = 6 := h.2 (774, 5, 20, 6) (by decide)
theorem MB.a6 (h : MB m M) : gR M 775 m = some (m + 6) ∧ kd M (m + 6) = 21 ∧ ln M (m + 6) = 36 := h.2 (775, 6, 21, 36) (by decide)
theorem MB.a7 (h : MB m M) : gR M 776 m = some (m + 7) ∧ kd M (m + 7) = 20 ∧ ln M (m + 7) = 36 := h.2 (776, 7, 20, 36) (by decide)
theorem MB.a8 (h : MB m M) : gR M 777 m = some (m + 8) ∧ kd M (m + 8) = 20 ∧ ln M (m + 8) = 36 := h.2 (777, 8, 20, 36) (by decide)
theorem MB.a9 (h : MB m M) : gR M 778 m = some (m + 9) ∧ kd M (m + 9) = 21 ∧ ln M (m + 9) = 36 := h.2 (778, 9, 21, 36) (by decide)
theorem MB.a10 (h : MB m M) : gR M 779 m = some (m + 10) ∧ kd M (m + 10) = 20 ∧ ln M (m + 10) = 6 := h.2 (779, 10, 20, 6) (by decide)
theorem MB.a11 (h : MB m M) : gR M 780 m = some (m + 11) ∧ kd M (m + 11) = 20 ∧ ln M (m + 11) = 24 := h.2 (780, 11, 20, 24) (by decide)
theorem MB.a12 (h : MB m M) : gR M 781 m = some (m + 12) ∧ kd M (m + 12) = 20 ∧ ln M (m + 12) = 24 := h.2 (781, 12, 20, 24) (by decide)
theorem MB.a13 (h : MB m M) : gR M 782 m = some (m + 13) ∧ kd M (m + 13) = 21 ∧ ln M (m + 13) = 24 := h.2 (782, 13, 21, 24) (by decide)
theorem MB.a14 (h : MB m M) : gR M 783 m = some (m + 14) ∧ kd M (m + 14) = 21 ∧ ln M (m + 14) = 24 := h.2 (783, 14, 21, 24) (by decide)
theorem MB.a15 (h : MB m M) : gR M 785 m = some (m + 15) ∧ kd M (m + 15) = 20 ∧ ln M (m + 15) = 3 := h.2 (785, 15, 20, 3) (by decide)
theorem MB.a16 (h : MB m M) : gR M 786 m = some (m + 16) ∧ kd M (m + 16) = 20 ∧ ln M (m + 16) = 12 := h.2 (786, 16, 20, 12) (by decide)
theorem MB.a17 (h : MB m M) : gR M 787 m = some (m + 17) ∧ kd M (m + 17) = 20 ∧ ln M (m + 17) = 6 := h.2 (787, 17, 20, 6) (by decide)
theorem MB.a18 (h : MB m M) : gR M 789 m = some (m + 18) ∧ kd M (m + 18) = 20 ∧ ln M (m + 18) = 40 := h.2 (789, 18, 20, 40) (by decide)
theorem MB.a19 (h : MB m M) : gR M 795 m = some (m + 19) ∧ kd M (m + 19) = 22 ∧ ln M (m + 19) = 14 := h.2 (795, 19, 22, 14) (by decide)
theorem MB.a20 (h : MB m M) : gR M 796 m = some (m + 20) ∧ kd M (m + 20) = 22 ∧ ln M (m + 20) = 4 := h.2 (796, 20, 22, 4) (by decide)
theorem MB.a21 (h : MB m M) : gR M 797 m = some (m + 21) ∧ kd M (m + 21) = 20 ∧ ln M (m + 21) = 10 := h.2 (797, 21, 20, 10) (by decide)
theorem MB.a22 (h : MB m M) : gR M 799 m = some (m + 22) ∧ kd M (m + 22) = 20 ∧ ln M (m + 22) = 440 := h.2 (799, 22, 20, 440) (by decide)
theorem MB.a23 (h : MB m M) : gR M 800 m = some (m + 23) ∧ kd M (m + 23) = 20 ∧ ln M (m + 23) = 440 := h.2 (800, 23, 20, 440) (by decide)
theorem MB.a24 (h : MB m M) : gR M 801 m = some (m + 24) ∧ kd M (m + 24) = 21 ∧ ln M (m + 24) = 7040 := h.2 (801, 24, 21, 7040) (by decide)
theorem MB.a25 (h : MB m M) : gR M 802 m = some (m + 25) ∧ kd M (m + 25) = 20 ∧ ln M (m + 25) = 164 := h.2 (802, 25, 20, 164) (by decide)
theorem MB.a26 (h : MB m M) : gR M 803 m = some (m + 26) ∧ kd M (m + 26) = 21 ∧ ln M (m + 26) = 984 := h.2 (803, 26, 21, 984) (by decide)
theorem MB.a27 (h : MB m M) : gR M 804 m = some (m + 27) ∧ kd M (m + 27) = 20 ∧ ln M (m + 27) = 164 := h.2 (804, 27, 20, 164) (by decide)
theorem MB.a28 (h : MB m M) : gR M 805 m = some (m + 28) ∧ kd M (m + 28) = 21 ∧ ln M (m + 28) = 6 := h.2 (805, 28, 21, 6) (by decide)
theorem MB.a29 (h : MB m M) : gR M 806 m = some (m + 29) ∧ kd M (m + 29) = 21 ∧ ln M (m + 29) = 6 := h.2 (806, 29, 21, 6) (by decide)
theorem MB.a30 (h : MB m M) : gR M 812 m = some (m + 30) ∧ kd M (m + 30) = 20 ∧ ln M (m + 30) = 164 := h.2 (812, 30, 20, 164) (by decide)
theorem MB.a31 (h : MB m M) : gR M 814 m = some (m + 31) ∧ kd M (m + 31) = 20 ∧ ln M (m + 31) = 64 := h.2 (814, 31, 20, 64) (by decide)
theorem MB.a32 (h : MB m M) : gR M 815 m = some (m + 32) ∧ kd M (m + 32) = 20 ∧ ln M (m + 32) = 64 := h.2 (815, 32, 20, 64) (by decide)
theorem MB.a33 (h : MB m M) : gR M 816 m = some (m + 33) ∧ kd M (m + 33) = 20 ∧ ln M (m + 33) = 64 := h.2 (816, 33, 20, 64) (by decide)
theorem MB.a34 (h : MB m M) : gR M 817 m = some (m + 34) ∧ kd M (m + 34) = 21 ∧ ln M (m + 34) = 384 := h.2 (817, 34, 21, 384) (by decide)
theorem MB.a35 (h : MB m M) : gR M 818 m = some (m + 35) ∧ kd M (m + 35) = 20 ∧ ln M (m + 35) = 384 := h.2 (818, 35, 20, 384) (by decide)
theorem MB.a36 (h : MB m M) : gR M 819 m = some (m + 36) ∧ kd M (m + 36) = 20 ∧ ln M (m + 36) = 384 := h.2 (819, 36, 20, 384) (by decide)
theorem MB.a37 (h : MB m M) : gR M 820 m = some (m + 37) ∧ kd M (m + 37) = 21 ∧ ln M (m + 37) = 384 := h.2 (820, 37, 21, 384) (by decide)
theorem MB.a38 (h : MB m M) : gR M 821 m = some (m + 38) ∧ kd M (m + 38) = 21 ∧ ln M (m + 38) = 6144 := h.2 (821, 38, 21, 6144) (by decide)
theorem MB.a39 (h : MB m M) : gR M 822 m = some (m + 39) ∧ kd M (m + 39) = 20 ∧ ln M (m + 39) = 384 := h.2 (822, 39, 20, 384) (by decide)
theorem MB.a40 (h : MB m M) : gR M 823 m = some (m + 40) ∧ kd M (m + 40) = 20 ∧ ln M (m + 40) = 64 := h.2 (823, 40, 20, 64) (by decide)
theorem MB.a41 (h : MB m M) : gR M 824 m = some (m + 41) ∧ kd M (m + 41) = 20 ∧ ln M (m + 41) = 384 := h.2 (824, 41, 20, 384) (by decide)
theorem MB.a42 (h : MB m M) : gR M 825 m = some (m + 42) ∧ kd M (m + 42) = 20 ∧ ln M (m + 42) = 170 := h.2 (825, 42, 20, 170) (by decide)
theorem MB.a43 (h : MB m M) : gR M 826 m = some (m + 43) ∧ kd M (m + 43) = 20 ∧ ln M (m + 43) = 170 := h.2 (826, 43, 20, 170) (by decide)
theorem MB.a44 (h : MB m M) : gR M 827 m = some (m + 44) ∧ kd M (m + 44) = 22 ∧ ln M (m + 44) = 164 := h.2 (827, 44, 22, 164) (by decide)
theorem MB.a45 (h : MB m M) : gR M 829 m = some (m + 45) ∧ kd M (m + 45) = 21 ∧ ln M (m + 45) = 384 := h.2 (829, 45, 21, 384) (by decide)
end MB
def ME (m : Nat) (M : Mem) (E : List TE) : Prop := gI M 768 m = nI E.length ∧ E.length ≤ 4 ∧ (∀ (e : Nat) (q : TE), E[e]? = some q → q.1.length ≤ 8 ∧ aI M (m + 1) e = nI q.1.length ∧ (∀ (c : Nat) (r : TC), q.1[c]? = some r → aJ M (m + 2) (8 * e + c) = r.1 ∧ aI M (m + 3) (8 * e + c) = r.2 ∧ (r.2 = 0 ∨ r.2 = 1)) ∧ (aI M (m + 4) e = q.2.1 ∧ (q.2.1 = 0 ∨ q.2.1 = 1)) ∧ (aI M (m + 19) (10 + e) = q.2.2.1 ∧ (q.2.2.1 = 0 ∨ q.2.2.1 = 1)) ∧ (aI M (m + 20) e = q.2.2.2 ∧ (q.2.2.2 = 0 ∨ q.2.2.2 = 1))) ∧ ∀ e, E.length ≤ e → e < 4 → aI M (m + 1) e = 0 ∧ aI M (m + 4) e = 0 ∧ aI M (m + 19) (10 + e) = 0 ∧ aI M (m + 20) e = 0
theorem ME.cg {m : Nat} {M M' : Mem} {E : List TE} (h : ME m M E) (e768 : gI M' 768 m = gI M 768 m) (i1 : aI M' (m + 1) = aI M (m + 1)) (i3 : aI M' (m + 3) = aI M (m + 3)) (i4 : aI M' (m + 4) = aI M (m + 4)) (i19 : aI M' (m + 19) = aI M (m + 19)) (i20 : aI M' (m + 20) = aI M (m + 20)) (j2 : aJ M' (m + 2) = aJ M (m + 2)) : ME m M' E := by
  unfold ME
  rw [e768, i1, i3, i4, i19, i20, j2]
  exact h
def MR (m : Nat) (M : Mem) (R : List TR) : Prop := gI M 773 m = nI R.length ∧ R.length ≤ 6 ∧ (∀ (r : Nat) (q : TR), R[r]? = some q → (q.1.length ≤ 6 ∧ aI M (m + 5) r = nI q.1.length ∧ ∀ (p : Nat) (t : TP), q.1[p]? = some t → aJ M (m + 6) (6 * r + p) = t.1 ∧ aI M (m + 7) (6 * r + p) = t.2.1 ∧ aI M (m + 8) (6 * r + p) = t.2.2.1 ∧ aJ M (m + 9) (6 * r + p) = t.2.2.2) ∧ (q.2.1.length ≤ 4 ∧ aI M (m + 10) r = nI q.2.1.length ∧ ∀ (k : Nat) (t : TK), q.2.1[k]? = some t → aI M (m + 11) (4 * r + k) = nI t.1 ∧ aI M (m + 12) (4 * r + k) = t.2.1 ∧ aJ M (m + 13) (4 * r + k) = t.2.2.1 ∧ aJ M (m + 14) (4 * r + k) = t.2.2.2) ∧ aI M (m + 19) r = q.2.2 ∧ (q.2.2 = 0 ∨ q.2.2 = 1)) ∧ ∀ r, R.length ≤ r → r < 6 → aI M (m + 5) r = 0 ∧ aI M (m + 10) r = 0 ∧ aI M (m + 19) r = 0
theorem MR.cg {m : Nat} {M M' : Mem} {R : List TR} (h : MR m M R) (e773 : gI M' 773 m = gI M 773 m) (i5 : aI M' (m + 5) = aI M (m + 5)) (i7 : aI M' (m + 7) = aI M (m + 7)) (i8 : aI M' (m + 8) = aI M (m + 8)) (i10 : aI M' (m + 10) = aI M (m + 10)) (i11 : aI M' (m + 11) = aI M (m + 11)) (i12 : aI M' (m + 12) = aI M (m + 12)) (i19 : aI M' (m + 19) = aI M (m + 19)) (j6 : aJ M' (m + 6) = aJ M (m + 6)) (j9 : aJ M' (m + 9) = aJ M (m + 9)) (j13 : aJ M' (m + 13) = aJ M (m + 13)) (j14 : aJ M' (m + 14) = aJ M (m + 14)) : MR m M' R := by
  unfold MR
  rw [e773, i5, i7, i8, i10, i11, i12, i19, j6, j9, j13, j14]
  exact h
def MF (m : Nat) (M : Mem) (F : List TF) : Prop := gI M 784 m = nI F.length ∧ F.length ≤ 3 ∧ (∀ (f : Nat) (q : TF), F[f]? = some q → q.1.length ≤ 4 ∧ aI M (m + 15) f = nI q.1.length ∧ ∀ (k : Nat) (c : Int32), q.1[k]? = some c → aI M (m + 16) (4 * f + k) = c) ∧ ∀ f, F.length ≤ f → f < 3 → aI M (m + 15) f = 0
theorem MF.cg {m : Nat} {M M' : Mem} {F : List TF} (h : MF m M F) (e784 : gI M' 784 m = gI M 784 m) (i15 : aI M' (m + 15) = aI M (m + 15)) (i16 : aI M' (m + 16) = aI M (m + 16)) : MF m M' F := by
  unfold MF
  rw [e784, i15, i16]
  exact h
def MW (m : Nat) (M : Mem) (W : List TW) : Prop := gI M 793 m = nI W.length ∧ W.length ≤ 440 ∧ ∀ (r : Nat) (q : TW), W[r]? = some q → q.2.length ≤ 16 ∧ aI M (m + 22) r = q.1 ∧ aI M (m + 23) r = nI q.2.length ∧ ∀ (i : Nat) (v : Int64), q.2[i]? = some v → aJ M (m + 24) (16 * r + i) = v
theorem MW.cg {m : Nat} {M M' : Mem} {W : List TW} (h : MW m M W) (e793 : gI M' 793 m = gI M 793 m) (i22 : aI M' (m + 22) = aI M (m + 22)) (i23 : aI M' (m + 23) = aI M (m + 23)) (j24 : aJ M' (m + 24) = aJ M (m + 24)) : MW m M' W := by
  unfold MW
  rw [e793, i22, i23, j24]
  exact h
def MO (m : Nat) (M : Mem) (O : List TO) : Prop := gI M 791 m = nI O.length ∧ O.length ≤ 164 ∧ ∀ (r : Nat) (q : TO), O[r]? = some q → q.2.1.length ≤ 6 ∧ aI M (m + 25) r = nI q.1 ∧ aI M (m + 27) r = q.2.2.1 ∧ ∀ (i : Nat) (v : Int64), q.2.1[i]? = some v → aJ M (m + 26) (6 * r + i) = v
theorem MO.cg {m : Nat} {M M' : Mem} {O : List TO} (h : MO m M O) (e791 : gI M' 791 m = gI M 791 m) (i25 : aI M' (m + 25) = aI M (m + 25)) (i27 : aI M' (m + 27) = aI M (m + 27)) (j26 : aJ M' (m + 26) = aJ M (m + 26)) : MO m M' O := by
  unfold MO
  rw [e791, i25, i27, j26]
  exact h
def ML (m : Nat) (M : Mem) (T : List TL) : Prop := gI M 813 m = nI T.length ∧ T.length ≤ 64 ∧ ∀ (l : Nat) (q : TL), T[l]? = some q → q.2.2.1.length ≤ 6 ∧ aI M (m + 31) l = nI q.1 ∧ aI M (m + 32) l = q.2.1 ∧ aI M (m + 33) l = nI q.2.2.1.length ∧ aI M (m + 40) l = q.2.2.2 ∧ ∀ (p : Nat) (t : TQ), q.2.2.1[p]? = some t → aJ M (m + 34) (6 * l + p) = t.1 ∧ aI M (m + 35) (6 * l + p) = t.2.1 ∧ (8 ≤ t.2.1 → aI M (m + 36) (6 * l + p) = t.2.2.1) ∧ (t.2.1 < 8 ∨ t.2.1 = 11 → aJ M (m + 37) (6 * l + p) = t.2.2.2.1) ∧ (t.2.1 = 8 ∨ t.2.1 = 10 → (aJ M (m + 37) (6 * l + p) < 0 ↔ t.2.2.2.1 < 0)) ∧ aI M (m + 39) (6 * l + p) = nI t.2.2.2.2.1.length ∧ t.2.2.2.2.1.length ≤ 16 ∧ (∀ (i : Nat) (v : Int64), t.2.2.2.2.1[i]? = some v → aJ M (m + 38) (16 * (6 * l + p) + i) = v) ∧ aI M (m + 41) (6 * l + p) = t.2.2.2.2.2
theorem ML.cg {m : Nat} {M M' : Mem} {T : List TL} (h : ML m M T) (e813 : gI M' 813 m = gI M 813 m) (i31 : aI M' (m + 31) = aI M (m + 31)) (i32 : aI M' (m + 32) = aI M (m + 32)) (i33 : aI M' (m + 33) = aI M (m + 33)) (i40 : aI M' (m + 40) = aI M (m + 40)) (i35 : aI M' (m + 35) = aI M (m + 35)) (i36 : aI M' (m + 36) = aI M (m + 36)) (i39 : aI M' (m + 39) = aI M (m + 39)) (i41 : aI M' (m + 41) = aI M (m + 41)) (j34 : aJ M' (m + 34) = aJ M (m + 34)) (j37 : aJ M' (m + 37) = aJ M (m + 37)) (j38 : aJ M' (m + 38) = aJ M (m + 38)) : ML m M' T := by
  unfold ML
  rw [e813, i31, i32, i33, i40, i35, i36, i39, i41, j34, j37, j38]
  exact h
def MS (m : Nat) (M : Mem) (S : TS) : Prop := gI M 794 m = nI S.1 ∧ gI M 792 m = nI S.2.1 ∧ gI M 798 m = nI S.2.2.1.length ∧ (∀ (i : Nat) (c : Int32), S.2.2.1[i]? = some c → aI M (m + 21) i = c) ∧ (∀ i, i < 6 → aJ M (m + 28) i = S.2.2.2.1 i) ∧ (gI M 807 m = S.2.2.2.2.1 0 ∧ gI M 808 m = S.2.2.2.2.1 1 ∧ gI M 809 m = S.2.2.2.2.1 2 ∧ gI M 810 m = S.2.2.2.2.1 3 ∧ gI M 811 m = S.2.2.2.2.1 4) ∧ gI M 790 m = nI S.2.2.2.2.2.1 ∧ gI M 828 m = S.2.2.2.2.2.2.1
theorem MS.cg {m : Nat} {M M' : Mem} {S : TS} (h : MS m M S) (e794 : gI M' 794 m = gI M 794 m) (e792 : gI M' 792 m = gI M 792 m) (e798 : gI M' 798 m = gI M 798 m) (e807 : gI M' 807 m = gI M 807 m) (e808 : gI M' 808 m = gI M 808 m) (e809 : gI M' 809 m = gI M 809 m) (e810 : gI M' 810 m = gI M 810 m) (e811 : gI M' 811 m = gI M 811 m) (e790 : gI M' 790 m = gI M 790 m) (e828 : gI M' 828 m = gI M 828 m) (i21 : aI M' (m + 21) = aI M (m + 21)) (j28 : aJ M' (m + 28) = aJ M (m + 28)) : MS m M' S := by
  unfold MS
  rw [e794, e792, e798, e807, e808, e809, e810, e811, e790, e828, i21, j28]
  exact h
/-- the model's own things are as they were -/
def MU (m : Nat) (M M' : Mem) : Prop := (∀ k, 768 ≤ k → gI M' k m = gI M k m ∧ gR M' k m = gR M k m ∧ gJ M' k m = gJ M k m) ∧ (∀ i, i ≤ 45 → kd M' (m + i) = kd M (m + i) ∧ ln M' (m + i) = ln M (m + i) ∧ aI M' (m + i) = aI M (m + i) ∧ aJ M' (m + i) = aJ M (m + i))
theorem Fr.mu {x m n : Nat} {K L AI AJ : Nat → Prop} {M M' : Mem} (f : Fr x K L AI AJ n M M') (hT : m + 46 ≤ mT M) (hK : ∀ k, 768 ≤ k → ¬ K k) (hA : ∀ i, i ≤ 45 → ¬ AI (m + i) ∧ ¬ AJ (m + i)) : MU m M M' :=
  ⟨fun k hk => ⟨f.fI (by omega) (by omega) (hK k hk), f.fR (by omega) (by omega) (hK k hk), f.fJ (by omega) (by omega) (hK k hk)⟩, fun i hi => ⟨f.fk (by omega), f.fl (by omega), f.eI (by omega) (hA i hi).1, f.eJ (by omega) (hA i hi).2⟩⟩
section MU
variable {m : Nat} {M M' : Mem}
theorem MB.mu (h : MB m M) (u : MU m M M') : MB m M' := by
  have hb : ∀ q ∈ mtab, 768 ≤ q.1 ∧ q.2.1 ≤ 45 := by decide
  refine ⟨by have := (u.2 0 (by omega)).1; rw [Nat.add_zero] at this; rw [this]; exact h.1, fun q hq => ?_⟩
  obtain ⟨b1, b2⟩ := hb q hq
  rw [(u.1 _ b1).2.1, (u.2 _ b2).1, (u.2 _ b2).2.1]
  exact h.2 q hq
theorem ME.mu {E : List TE} (h : ME m M E) (u : MU m M M') : ME m M' E := h.cg (u.1 768 (by omega)).1 (u.2 1 (by omega)).2.2.1 (u.2 3 (by omega)).2.2.1 (u.2 4 (by omega)).2.2.1 (u.2 19 (by omega)).2.2.1 (u.2 20 (by omega)).2.2.1 (u.2 2 (by omega)).2.2.2
theorem MR.mu {R : List TR} (h : MR m M R) (u : MU m M M') : MR m M' R := h.cg (u.1 773 (by omega)).1 (u.2 5 (by omega)).2.2.1 (u.2 7 (by omega)).2.2.1 (u.2 8 (by omega)).2.2.1 (u.2 10 (by omega)).2.2.1 (u.2 11 (by omega)).2.2.1 (u.2 12 (by omega)).2.2.1 (u.2 19 (by omega)).2.2.1 (u.2 6 (by omega)).2.2.2 (u.2 9 (by omega)).2.2.2 (u.2 13 (by omega)).2.2.2 (u.2 14 (by omega)).2.2.2
theorem MF.mu {F : List TF} (h : MF m M F) (u : MU m M M') : MF m M' F := h.cg (u.1 784 (by omega)).1 (u.2 15 (by omega)).2.2.1 (u.2 16 (by omega)).2.2.1
theorem MW.mu {W : List TW} (h : MW m M W) (u : MU m M M') : MW m M' W := h.cg (u.1 793 (by omega)).1 (u.2 22 (by omega)).2.2.1 (u.2 23 (by omega)).2.2.1 (u.2 24 (by omega)).2.2.2
theorem MO.mu {O : List TO} (h : MO m M O) (u : MU m M M') : MO m M' O := h.cg (u.1 791 (by omega)).1 (u.2 25 (by omega)).2.2.1 (u.2 27 (by omega)).2.2.1 (u.2 26 (by omega)).2.2.2
theorem ML.mu {T : List TL} (h : ML m M T) (u : MU m M M') : ML m M' T := h.cg (u.1 813 (by omega)).1 (u.2 31 (by omega)).2.2.1 (u.2 32 (by omega)).2.2.1 (u.2 33 (by omega)).2.2.1 (u.2 40 (by omega)).2.2.1 (u.2 35 (by omega)).2.2.1 (u.2 36 (by omega)).2.2.1 (u.2 39 (by omega)).2.2.1 (u.2 41 (by omega)).2.2.1 (u.2 34 (by omega)).2.2.2 (u.2 37 (by omega)).2.2.2 (u.2 38 (by omega)).2.2.2
theorem MS.mu {S : TS} (h : MS m M S) (u : MU m M M') : MS m M' S := h.cg (u.1 794 (by omega)).1 (u.1 792 (by omega)).1 (u.1 798 (by omega)).1 (u.1 807 (by omega)).1 (u.1 808 (by omega)).1 (u.1 809 (by omega)).1 (u.1 810 (by omega)).1 (u.1 811 (by omega)).1 (u.1 790 (by omega)).1 (u.1 828 (by omega)).1 (u.2 21 (by omega)).2.2.1 (u.2 28 (by omega)).2.2.2
theorem MB.wI {a j : Nat} {v : Int32} (h : MB m M) : MB m (wI M a j v) := h
theorem MB.wJ {a j : Nat} {v : Int64} (h : MB m M) : MB m (wJ M a j v) := h
theorem MB.sI {k a : Nat} {v : Int32} (h : MB m M) : MB m (sI M k a v) := h
theorem MB.sJ {k a : Nat} {v : Int64} (h : MB m M) : MB m (sJ M k a v) := h
end MU
/-- the class's things are as they were: the model writes its own rows and numbers alone -/
def CU (m : Nat) (M M' : Mem) : Prop := (mT M' = mT M ∧ mS M' = mS M ∧ sR M' = sR M ∧ kd M' = kd M ∧ ln M' = ln M ∧ aR M' = aR M ∧ gR M' = gR M) ∧ (∀ k, k < 768 → gI M' k = gI M k ∧ gJ M' k = gJ M k) ∧ (∀ a, ¬ (m < a ∧ a ≤ m + 45) → aI M' a = aI M a ∧ aJ M' a = aJ M a)
section CU
variable {m : Nat} {M M1 M2 : Mem}
theorem CU.rf : CU m M M := ⟨⟨rfl, rfl, rfl, rfl, rfl, rfl, rfl⟩, fun _ _ => ⟨rfl, rfl⟩, fun _ _ => ⟨rfl, rfl⟩⟩
theorem CU.tr (h : CU m M M1) (g : CU m M1 M2) : CU m M M2 := by
  obtain ⟨⟨a1, a2, a3, a4, a5, a6, a7⟩, b, c⟩ := h
  obtain ⟨⟨a1', a2', a3', a4', a5', a6', a7'⟩, b', c'⟩ := g
  exact ⟨⟨a1'.trans a1, a2'.trans a2, a3'.trans a3, a4'.trans a4, a5'.trans a5, a6'.trans a6, a7'.trans a7⟩, fun k hk => ⟨(b' k hk).1.trans (b k hk).1, (b' k hk).2.trans (b k hk).2⟩, fun a ha => ⟨(c' a ha).1.trans (c a ha).1, (c' a ha).2.trans (c a ha).2⟩⟩
theorem CU.bI {k a : Nat} {v : Int32} (h : CU m M M1) (hk : 768 ≤ k) : CU m M (sI M1 k a v) := ⟨h.1, fun j hj => ⟨(up2_ne (by omega)).trans (h.2.1 j hj).1, (h.2.1 j hj).2⟩, h.2.2⟩
theorem CU.bJ {k a : Nat} {v : Int64} (h : CU m M M1) (hk : 768 ≤ k) : CU m M (sJ M1 k a v) := ⟨h.1, fun j hj => ⟨(h.2.1 j hj).1, (up2_ne (by omega)).trans (h.2.1 j hj).2⟩, h.2.2⟩
theorem CU.bAI {a : Nat} {f : Nat → Int32} (h : CU m M M1) (ha : m < a ∧ a ≤ m + 45) : CU m M (uI M1 a f) := ⟨h.1, h.2.1, fun b hb => ⟨(up1_no (fun q => hb (by omega))).trans (h.2.2 b hb).1, (h.2.2 b hb).2⟩⟩
theorem CU.bAJ {a : Nat} {f : Nat → Int64} (h : CU m M M1) (ha : m < a ∧ a ≤ m + 45) : CU m M (uJ M1 a f) := ⟨h.1, h.2.1, fun b hb => ⟨(h.2.2 b hb).1, (up1_no (fun q => hb (by omega))).trans (h.2.2 b hb).2⟩⟩
/-- in the words of the class's frames -/
theorem CU.fr {x : Nat} (h : CU m M M1) (hv : PIv x M) (hL : LI M) : Fr x (fun k => 768 ≤ k) No (fun a => m < a ∧ a ≤ m + 45) (fun a => m < a ∧ a ≤ m + 45) 0 M M1 := by
  obtain ⟨⟨a1, a2, a3, a4, a5, a6, a7⟩, b, c⟩ := h
  have hv1 : PIv x M1 := by unfold PIv; rw [a1, a4, a6]; exact hv
  have hL1 : LI M1 := by unfold LI CI; rw [a1, a4, a6, a7]; exact hL
  refine ⟨⟨by omega, by omega, by omega, by omega, a3⟩, ⟨hv, hv1⟩, hL1, fun a _ => ⟨by rw [a4], by rw [a5], fun _ => by rw [a6]⟩, fun k a _ _ hk => ⟨by rw [(b k (by omega)).1], by rw [(b k (by omega)).2], by rw [a7]⟩, fun a _ ha => (c a ha).1, fun a _ ha => (c a ha).2, fun l as _ hl => ?_⟩
  obtain ⟨g1, g2, g3, d, g4, g5, g6, g7, g8⟩ := hl
  exact ⟨by rw [a4]; exact g1, by rw [(b 2 (by omega)).1]; exact g2, g3, d, by rw [a7]; exact g4, by rw [a5]; exact g5, by rw [a5]; exact g6, fun i a hi => by rw [a6]; exact g7 i a hi, by rw [a4, a5, a3]; exact g8⟩
end CU
