/-! reading a heap behind a store -/
theorem hf_f {h : gk_H} {k i k' s : Nat} {x : Int32} : (gk_hf h k i x).1 k' s = if k' = k ∧ s = i then x else h.1 k' s := by
  simp only [gk_hf, va_up, upd]
  by_cases e : k' = k
  · subst e; simp [upd]
  · simp [e]
theorem hf_2 {h : gk_H} {k i : Nat} {x : Int32} : (gk_hf h k i x).2 = h.2 := rfl
theorem ha_1 {h : gk_H} {k i : Nat} {x : Int32} : (gk_ha h k i x).1 = h.1 := rfl
theorem ha_l {h : gk_H} {k i : Nat} {x : Int32} : (gk_ha h k i x).2.2 = h.2.2 := rfl
theorem ha_a {h : gk_H} {k i k' s : Nat} {x : Int32} : (gk_ha h k i x).2.1 k' s = if k' = k ∧ s = i then x else h.2.1 k' s := by
  simp only [gk_ha, va_up, upd]
  by_cases e : k' = k
  · subst e; simp [upd]
  · simp [e]
theorem hc_1 {h : gk_H} {k k0 sp dp n : Nat} : (gk_hc h k k0 sp dp n).1 = h.1 := rfl
theorem hc_l {h : gk_H} {k k0 sp dp n : Nat} : (gk_hc h k k0 sp dp n).2.2 = h.2.2 := rfl
theorem hc_a {h : gk_H} {k k0 n k' s : Nat} : (gk_hc h k k0 0 0 n).2.1 k' s = if k' = k ∧ s < n then h.2.1 k0 s else h.2.1 k' s := by
  simp only [gk_hc, va_up, va_cpy]
  by_cases e : k' = k
  · subst e; simp [va_cpy]
  · simp [e]
theorem hcl_1 {h : gk_H} {k k0 sp dp n : Nat} : (gk_hcl h k k0 sp dp n).1 = h.1 := rfl
theorem hcl_a {h : gk_H} {k k0 sp dp n : Nat} : (gk_hcl h k k0 sp dp n).2.1 = h.2.1 := rfl
theorem hcl_l {h : gk_H} {k k0 n k' s : Nat} : (gk_hcl h k k0 0 0 n).2.2 k' s = if k' = k ∧ s < n then h.2.2 k0 s else h.2.2 k' s := by
  simp only [gk_hcl, va_up, va_cpy]
  by_cases e : k' = k
  · subst e; simp [va_cpy]
  · simp [e]
theorem cp_f {h : gk_H} {a b k s : Nat} (hab : a ≠ b) : (hv_copy h a b).1 k s = if k = a ∧ s < 8 then h.1 b s else h.1 k s := by
  have hba : ¬ b = a := fun e => hab e.symm
  simp only [hv_copy, hc_1, hcl_1, hf_f, hba, false_and, if_false]
  by_cases e : k = a
  · simp only [e, true_and]
    by_cases e8 : s < 8
    · have : s = 0 ∨ s = 1 ∨ s = 2 ∨ s = 3 ∨ s = 4 ∨ s = 5 ∨ s = 6 ∨ s = 7 := by omega
      rcases this with rfl | rfl | rfl | rfl | rfl | rfl | rfl | rfl <;> simp
    · have : ¬ s = 0 ∧ ¬ s = 1 ∧ ¬ s = 2 ∧ ¬ s = 3 ∧ ¬ s = 4 ∧ ¬ s = 5 ∧ ¬ s = 6 ∧ ¬ s = 7 := by omega
      simp [this, e8]
  · simp [e]
theorem cp_l {h : gk_H} {a b k s : Nat} : (hv_copy h a b).2.2 k s = if k = a + 1 ∧ s < 10 then h.2.2 (b + 1) s else h.2.2 k s := by
  simp only [hv_copy, hc_l, hcl_l, hf_2]
theorem cp_a {h : gk_H} {a b k s : Nat} (hab : a + 5 < b ∨ b + 5 < a) : (hv_copy h a b).2.1 k s = if k = a + 2 ∧ s < 10 then h.2.1 (b + 2) s else if k = a + 3 ∧ s < 10 then h.2.1 (b + 3) s else if k = a + 4 ∧ s < 10 then h.2.1 (b + 4) s else if k = a + 5 ∧ s < 6 then h.2.1 (b + 5) s else h.2.1 k s := by
  have n1 : ∀ i j : Nat, i ≤ 5 → j ≤ 5 → ¬ b + i = a + j := by intro i j h1 h2; omega
  simp only [hv_copy, hc_a, hcl_a, hf_2, n1 3 2 (by decide) (by decide), n1 4 2 (by decide) (by decide), n1 4 3 (by decide) (by decide), n1 5 2 (by decide) (by decide), n1 5 3 (by decide) (by decide), n1 5 4 (by decide) (by decide), false_and, if_false]
  by_cases e2 : k = a + 2
  · subst e2; simp
  · by_cases e3 : k = a + 3
    · subst e3; simp
    · by_cases e4 : k = a + 4
      · subst e4; simp
      · simp [e2, e3, e4]
