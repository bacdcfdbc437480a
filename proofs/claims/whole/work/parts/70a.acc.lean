/-! READING a memory that was written -/
theorem mT_sI (M : Mem) (k a : Nat) (v : Int32) : mT (sI M k a v) = mT M := rfl
theorem mS_sI (M : Mem) (k a : Nat) (v : Int32) : mS (sI M k a v) = mS M := rfl
theorem kd_sI (M : Mem) (k a : Nat) (v : Int32) : kd (sI M k a v) = kd M := rfl
theorem gI_sI (M : Mem) (k a : Nat) (v : Int32) : gI (sI M k a v) = up2 (gI M) k a v := rfl
theorem gJ_sI (M : Mem) (k a : Nat) (v : Int32) : gJ (sI M k a v) = gJ M := rfl
theorem gR_sI (M : Mem) (k a : Nat) (v : Int32) : gR (sI M k a v) = gR M := rfl
theorem ln_sI (M : Mem) (k a : Nat) (v : Int32) : ln (sI M k a v) = ln M := rfl
theorem aI_sI (M : Mem) (k a : Nat) (v : Int32) : aI (sI M k a v) = aI M := rfl
theorem aJ_sI (M : Mem) (k a : Nat) (v : Int32) : aJ (sI M k a v) = aJ M := rfl
theorem aR_sI (M : Mem) (k a : Nat) (v : Int32) : aR (sI M k a v) = aR M := rfl
theorem sR_sI (M : Mem) (k a : Nat) (v : Int32) : sR (sI M k a v) = sR M := rfl
theorem mT_sJ (M : Mem) (k a : Nat) (v : Int64) : mT (sJ M k a v) = mT M := rfl
theorem mS_sJ (M : Mem) (k a : Nat) (v : Int64) : mS (sJ M k a v) = mS M := rfl
theorem kd_sJ (M : Mem) (k a : Nat) (v : Int64) : kd (sJ M k a v) = kd M := rfl
theorem gI_sJ (M : Mem) (k a : Nat) (v : Int64) : gI (sJ M k a v) = gI M := rfl
theorem gJ_sJ (M : Mem) (k a : Nat) (v : Int64) : gJ (sJ M k a v) = up2 (gJ M) k a v := rfl
theorem gR_sJ (M : Mem) (k a : Nat) (v : Int64) : gR (sJ M k a v) = gR M := rfl
theorem ln_sJ (M : Mem) (k a : Nat) (v : Int64) : ln (sJ M k a v) = ln M := rfl
theorem aI_sJ (M : Mem) (k a : Nat) (v : Int64) : aI (sJ M k a v) = aI M := rfl
theorem aJ_sJ (M : Mem) (k a : Nat) (v : Int64) : aJ (sJ M k a v) = aJ M := rfl
theorem aR_sJ (M : Mem) (k a : Nat) (v : Int64) : aR (sJ M k a v) = aR M := rfl
theorem sR_sJ (M : Mem) (k a : Nat) (v : Int64) : sR (sJ M k a v) = sR M := rfl
theorem mT_sF (M : Mem) (k a : Nat) (v : Option Nat) : mT (sF M k a v) = mT M := rfl
theorem mS_sF (M : Mem) (k a : Nat) (v : Option Nat) : mS (sF M k a v) = mS M := rfl
theorem kd_sF (M : Mem) (k a : Nat) (v : Option Nat) : kd (sF M k a v) = kd M := rfl
theorem gI_sF (M : Mem) (k a : Nat) (v : Option Nat) : gI (sF M k a v) = gI M := rfl
theorem gJ_sF (M : Mem) (k a : Nat) (v : Option Nat) : gJ (sF M k a v) = gJ M := rfl
theorem gR_sF (M : Mem) (k a : Nat) (v : Option Nat) : gR (sF M k a v) = up2 (gR M) k a v := rfl
theorem ln_sF (M : Mem) (k a : Nat) (v : Option Nat) : ln (sF M k a v) = ln M := rfl
theorem aI_sF (M : Mem) (k a : Nat) (v : Option Nat) : aI (sF M k a v) = aI M := rfl
theorem aJ_sF (M : Mem) (k a : Nat) (v : Option Nat) : aJ (sF M k a v) = aJ M := rfl
theorem aR_sF (M : Mem) (k a : Nat) (v : Option Nat) : aR (sF M k a v) = aR M := rfl
theorem sR_sF (M : Mem) (k a : Nat) (v : Option Nat) : sR (sF M k a v) = sR M := rfl
theorem mT_uI (M : Mem) (a : Nat) (f : Nat → Int32) : mT (uI M a f) = mT M := rfl
theorem mS_uI (M : Mem) (a : Nat) (f : Nat → Int32) : mS (uI M a f) = mS M := rfl
theorem kd_uI (M : Mem) (a : Nat) (f : Nat → Int32) : kd (uI M a f) = kd M := rfl
theorem gI_uI (M : Mem) (a : Nat) (f : Nat → Int32) : gI (uI M a f) = gI M := rfl
theorem gJ_uI (M : Mem) (a : Nat) (f : Nat → Int32) : gJ (uI M a f) = gJ M := rfl
theorem gR_uI (M : Mem) (a : Nat) (f : Nat → Int32) : gR (uI M a f) = gR M := rfl
theorem ln_uI (M : Mem) (a : Nat) (f : Nat → Int32) : ln (uI M a f) = ln M := rfl
theorem aI_uI (M : Mem) (a : Nat) (f : Nat → Int32) : aI (uI M a f) = up1 (aI M) a f := rfl
theorem aJ_uI (M : Mem) (a : Nat) (f : Nat → Int32) : aJ (uI M a f) = aJ M := rfl
theorem aR_uI (M : Mem) (a : Nat) (f : Nat → Int32) : aR (uI M a f) = aR M := rfl
theorem sR_uI (M : Mem) (a : Nat) (f : Nat → Int32) : sR (uI M a f) = sR M := rfl
theorem mT_uJ (M : Mem) (a : Nat) (f : Nat → Int64) : mT (uJ M a f) = mT M := rfl
theorem mS_uJ (M : Mem) (a : Nat) (f : Nat → Int64) : mS (uJ M a f) = mS M := rfl
theorem kd_uJ (M : Mem) (a : Nat) (f : Nat → Int64) : kd (uJ M a f) = kd M := rfl
theorem gI_uJ (M : Mem) (a : Nat) (f : Nat → Int64) : gI (uJ M a f) = gI M := rfl
theorem gJ_uJ (M : Mem) (a : Nat) (f : Nat → Int64) : gJ (uJ M a f) = gJ M := rfl
theorem gR_uJ (M : Mem) (a : Nat) (f : Nat → Int64) : gR (uJ M a f) = gR M := rfl
theorem ln_uJ (M : Mem) (a : Nat) (f : Nat → Int64) : ln (uJ M a f) = ln M := rfl
theorem aI_uJ (M : Mem) (a : Nat) (f : Nat → Int64) : aI (uJ M a f) = aI M := rfl
theorem aJ_uJ (M : Mem) (a : Nat) (f : Nat → Int64) : aJ (uJ M a f) = up1 (aJ M) a f := rfl
theorem aR_uJ (M : Mem) (a : Nat) (f : Nat → Int64) : aR (uJ M a f) = aR M := rfl
theorem sR_uJ (M : Mem) (a : Nat) (f : Nat → Int64) : sR (uJ M a f) = sR M := rfl
theorem mT_uR (M : Mem) (a : Nat) (f : Nat → Option Nat) : mT (uR M a f) = mT M := rfl
theorem mS_uR (M : Mem) (a : Nat) (f : Nat → Option Nat) : mS (uR M a f) = mS M := rfl
theorem kd_uR (M : Mem) (a : Nat) (f : Nat → Option Nat) : kd (uR M a f) = kd M := rfl
theorem gI_uR (M : Mem) (a : Nat) (f : Nat → Option Nat) : gI (uR M a f) = gI M := rfl
theorem gJ_uR (M : Mem) (a : Nat) (f : Nat → Option Nat) : gJ (uR M a f) = gJ M := rfl
theorem gR_uR (M : Mem) (a : Nat) (f : Nat → Option Nat) : gR (uR M a f) = gR M := rfl
theorem ln_uR (M : Mem) (a : Nat) (f : Nat → Option Nat) : ln (uR M a f) = ln M := rfl
theorem aI_uR (M : Mem) (a : Nat) (f : Nat → Option Nat) : aI (uR M a f) = aI M := rfl
theorem aJ_uR (M : Mem) (a : Nat) (f : Nat → Option Nat) : aJ (uR M a f) = aJ M := rfl
theorem aR_uR (M : Mem) (a : Nat) (f : Nat → Option Nat) : aR (uR M a f) = up1 (aR M) a f := rfl
theorem sR_uR (M : Mem) (a : Nat) (f : Nat → Option Nat) : sR (uR M a f) = sR M := rfl
theorem mT_nO (M : Mem) (c n : Nat) : mT (nO M c n) = mT M + 1 := rfl
theorem mS_nO (M : Mem) (c n : Nat) : mS (nO M c n) = mS M + n := rfl
theorem kd_nO (M : Mem) (c n : Nat) : kd (nO M c n) = up1 (kd M) (mT M) c := rfl
theorem gI_nO (M : Mem) (c n : Nat) : gI (nO M c n) = clr (gI M) (mT M) 0 := rfl
theorem gJ_nO (M : Mem) (c n : Nat) : gJ (nO M c n) = clr (gJ M) (mT M) 0 := rfl
theorem gR_nO (M : Mem) (c n : Nat) : gR (nO M c n) = clr (gR M) (mT M) none := rfl
theorem ln_nO (M : Mem) (c n : Nat) : ln (nO M c n) = ln M := rfl
theorem aI_nO (M : Mem) (c n : Nat) : aI (nO M c n) = aI M := rfl
theorem aJ_nO (M : Mem) (c n : Nat) : aJ (nO M c n) = aJ M := rfl
theorem aR_nO (M : Mem) (c n : Nat) : aR (nO M c n) = aR M := rfl
theorem sR_nO (M : Mem) (c n : Nat) : sR (nO M c n) = sR M := rfl
theorem mT_nA (M : Mem) (c n : Nat) : mT (nA M c n) = mT M + 1 := rfl
theorem mS_nA (M : Mem) (c n : Nat) : mS (nA M c n) = mS M + n := rfl
theorem kd_nA (M : Mem) (c n : Nat) : kd (nA M c n) = up1 (kd M) (mT M) c := rfl
theorem gI_nA (M : Mem) (c n : Nat) : gI (nA M c n) = gI M := rfl
theorem gJ_nA (M : Mem) (c n : Nat) : gJ (nA M c n) = gJ M := rfl
theorem gR_nA (M : Mem) (c n : Nat) : gR (nA M c n) = gR M := rfl
theorem ln_nA (M : Mem) (c n : Nat) : ln (nA M c n) = up1 (ln M) (mT M) n := rfl
theorem aI_nA (M : Mem) (c n : Nat) : aI (nA M c n) = up1 (aI M) (mT M) (fun _ => 0) := rfl
theorem aJ_nA (M : Mem) (c n : Nat) : aJ (nA M c n) = up1 (aJ M) (mT M) (fun _ => 0) := rfl
theorem aR_nA (M : Mem) (c n : Nat) : aR (nA M c n) = up1 (aR M) (mT M) (fun _ => none) := rfl
theorem sR_nA (M : Mem) (c n : Nat) : sR (nA M c n) = sR M := rfl
theorem clr_at {α : Type} {f : Nat → Nat → α} {a k : Nat} {v : α} : clr f a v k a = v := if_pos rfl
theorem clr_no {α : Type} {f : Nat → Nat → α} {a k b : Nat} {v : α} (h : b ≠ a) : clr f a v k b = f k b := if_neg h
theorem mT_wI (M : Mem) (a j : Nat) (v : Int32) : mT (wI M a j v) = mT M := rfl
theorem mS_wI (M : Mem) (a j : Nat) (v : Int32) : mS (wI M a j v) = mS M := rfl
theorem kd_wI (M : Mem) (a j : Nat) (v : Int32) : kd (wI M a j v) = kd M := rfl
theorem gI_wI (M : Mem) (a j : Nat) (v : Int32) : gI (wI M a j v) = gI M := rfl
theorem gJ_wI (M : Mem) (a j : Nat) (v : Int32) : gJ (wI M a j v) = gJ M := rfl
theorem gR_wI (M : Mem) (a j : Nat) (v : Int32) : gR (wI M a j v) = gR M := rfl
theorem ln_wI (M : Mem) (a j : Nat) (v : Int32) : ln (wI M a j v) = ln M := rfl
theorem aI_wI (M : Mem) (a j : Nat) (v : Int32) : aI (wI M a j v) = up1 (aI M) a (up1 (aI M a) j v) := rfl
theorem aJ_wI (M : Mem) (a j : Nat) (v : Int32) : aJ (wI M a j v) = aJ M := rfl
theorem aR_wI (M : Mem) (a j : Nat) (v : Int32) : aR (wI M a j v) = aR M := rfl
theorem sR_wI (M : Mem) (a j : Nat) (v : Int32) : sR (wI M a j v) = sR M := rfl
theorem mT_wJ (M : Mem) (a j : Nat) (v : Int64) : mT (wJ M a j v) = mT M := rfl
theorem mS_wJ (M : Mem) (a j : Nat) (v : Int64) : mS (wJ M a j v) = mS M := rfl
theorem kd_wJ (M : Mem) (a j : Nat) (v : Int64) : kd (wJ M a j v) = kd M := rfl
theorem gI_wJ (M : Mem) (a j : Nat) (v : Int64) : gI (wJ M a j v) = gI M := rfl
theorem gJ_wJ (M : Mem) (a j : Nat) (v : Int64) : gJ (wJ M a j v) = gJ M := rfl
theorem gR_wJ (M : Mem) (a j : Nat) (v : Int64) : gR (wJ M a j v) = gR M := rfl
theorem ln_wJ (M : Mem) (a j : Nat) (v : Int64) : ln (wJ M a j v) = ln M := rfl
theorem aI_wJ (M : Mem) (a j : Nat) (v : Int64) : aI (wJ M a j v) = aI M := rfl
theorem aJ_wJ (M : Mem) (a j : Nat) (v : Int64) : aJ (wJ M a j v) = up1 (aJ M) a (up1 (aJ M a) j v) := rfl
theorem aR_wJ (M : Mem) (a j : Nat) (v : Int64) : aR (wJ M a j v) = aR M := rfl
theorem sR_wJ (M : Mem) (a j : Nat) (v : Int64) : sR (wJ M a j v) = sR M := rfl
theorem mT_wR (M : Mem) (a j : Nat) (v : Option Nat) : mT (wR M a j v) = mT M := rfl
theorem mS_wR (M : Mem) (a j : Nat) (v : Option Nat) : mS (wR M a j v) = mS M := rfl
theorem kd_wR (M : Mem) (a j : Nat) (v : Option Nat) : kd (wR M a j v) = kd M := rfl
theorem gI_wR (M : Mem) (a j : Nat) (v : Option Nat) : gI (wR M a j v) = gI M := rfl
theorem gJ_wR (M : Mem) (a j : Nat) (v : Option Nat) : gJ (wR M a j v) = gJ M := rfl
theorem gR_wR (M : Mem) (a j : Nat) (v : Option Nat) : gR (wR M a j v) = gR M := rfl
theorem ln_wR (M : Mem) (a j : Nat) (v : Option Nat) : ln (wR M a j v) = ln M := rfl
theorem aI_wR (M : Mem) (a j : Nat) (v : Option Nat) : aI (wR M a j v) = aI M := rfl
theorem aJ_wR (M : Mem) (a j : Nat) (v : Option Nat) : aJ (wR M a j v) = aJ M := rfl
theorem aR_wR (M : Mem) (a j : Nat) (v : Option Nat) : aR (wR M a j v) = up1 (aR M) a (up1 (aR M a) j v) := rfl
theorem sR_wR (M : Mem) (a j : Nat) (v : Option Nat) : sR (wR M a j v) = sR M := rfl
