/-! words: which word is written, the class -/
def wst : List Nat := [1, 8, 14, 20, 25, 28, 32, 36, 40, 46, 51, 57, 62, 68, 73, 77, 81, 86, 89, 93, 98, 103, 106, 111, 117]
def wln : List Nat := [6, 5, 5, 4, 2, 3, 3, 3, 5, 4, 5, 4, 5, 4, 3, 3, 4, 2, 3, 4, 4, 2, 4, 5, 2]
def cwN : Nat → Nat
  | 0 => 0
  | i + 1 => if wdN.getD (i + 1) 0 = 32 then cwN i + 1 else cwN i
theorem wd_tab : ∀ i, i < 119 → (wdN.getD (i + 1) 0 = 32 → i + 1 = wst.getD (cwN i) 0 + wln.getD (cwN i) 0 ∧ cwN (i + 1) = cwN i + 1 ∧ (i + 1 < 119 → wst.getD (cwN (i + 1)) 0 = i + 2)) ∧ (¬ wdN.getD (i + 1) 0 = 32 → cwN (i + 1) = cwN i) ∧ cwN i < 25 ∧ 1 ≤ wst.getD (cwN i) 0 ∧ wst.getD (cwN i) 0 ≤ i + 1 := by decide +kernel
theorem wd_end : cwN 119 = 25 := by decide +kernel
theorem wd_in : ∀ w, w < 25 → wst.getD w 0 + wln.getD w 0 < 120 ∧ 1 ≤ wst.getD w 0 ∧ wdN.getD (wst.getD w 0 + wln.getD w 0) 0 = 32 ∧ wdN.getD (wst.getD w 0 - 1) 0 = 32 := by decide +kernel
theorem wd_no32 : ∀ w, w < 25 → ∀ j, j < wln.getD w 0 → ¬ wdN.getD (wst.getD w 0 + j) 0 = 32 := by decide +kernel
theorem wd_one : ∀ w, w < 25 → ∀ v, v < 25 → wln.getD w 0 = wln.getD v 0 → (∀ j, j < wln.getD w 0 → wdN.getD (wst.getD w 0 + j) 0 = wdN.getD (wst.getD v 0 + j) 0) → w = v := by decide +kernel
/-- the signs a .. b - 1 are word w -/
def wm (s : Nat → Nat) (a b w : Nat) : Prop := b - a = wln.getD w 0 ∧ ∀ j, j < wln.getD w 0 → wdN.getD (wst.getD w 0 + j) 0 = s (a + j)
theorem wm_one {s : Nat → Nat} {a b w v : Nat} (hw : w < 25) (hv : v < 25) (m : wm s a b w) (m' : wm s a b v) : w = v := by
  have e : wln.getD w 0 = wln.getD v 0 := m.1.symm.trans m'.1
  exact wd_one w hw v hv e fun j hj => (m.2 j hj).trans (m'.2 j (by omega)).symm
