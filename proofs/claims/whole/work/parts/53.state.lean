/-! the relation between a world's view and a row; state -/
def lr (g : Int64) (r : Nat) : Int32 := nI (g.toBitVec.toNat / 2 ^ (8 * r) % 256)
/-- c: how many places, and their years; good: what both keep within -/
def wRel (good : gk_WV → Prop) (c : Int32 × (Nat → Int32)) (w : gk_WV) (row : Nat → Int32) : Prop := (w.1 0 = c.1 ∧ w.2.2.1 = c.2) ∧ good w ∧ row 0 = w.1 5 ∧ row 1 = w.1 6 ∧ row 2 = w.1 7 ∧ row 3 = w.1 3 ∧ row 4 = w.1 4 ∧ (∀ r, r < 6 → row (5 + r) = w.2.2.2.2.2 r) ∧ ∀ p, p < 10 → row (11 + p) = w.2.2.2.1 p + 1 ∧ row (21 + p) = nb_b (nb_bit (w.1 1) p) ∧ row (31 + p) = nb_b (nb_bit (w.1 2) p) ∧ row (41 + p) = w.2.2.2.2.1 p ∧ ∀ r, r < 8 → row (51 + 8 * p + r) = lr (w.2.1 p) r
theorem wv_set {h : gk_H} {a i : Nat} {x : Int32} (hi : i < 8) : wv (gk_hf h a i x) a = (fun s => if s = i then x else (wv h a).1 s, (wv h a).2) := by
  refine Prod.ext (funext fun s => ?_) rfl
  simp only [wv, hf_f, true_and]
  by_cases q : s = i
  · rw [q]; simp [hi]
  · simp [q]
theorem rv_set {h : gk_H} {k o i : Nat} {x : Int32} (hi : i < 131) : rv (gk_ha h k (o + i) x) k o = fun j => if j = i then x else rv h k o j := by
  funext j
  simp only [rv, ha_a, true_and]
  by_cases q : j = i
  · rw [q]; simp [hi]
  · have : ¬ o + j = o + i := by omega
    simp [q]
/-- one of day, draws, written, purse, seen told anew on both sides -/
theorem wRel_set {good : gk_WV → Prop} {c : Int32 × (Nat → Int32)} {w : gk_WV} {row : Nat → Int32} {i j : Nat} {x : Int32} (hij : (i = 5 ∧ j = 0) ∨ (i = 6 ∧ j = 1) ∨ (i = 7 ∧ j = 2) ∨ (i = 3 ∧ j = 3) ∨ (i = 4 ∧ j = 4)) (r : wRel good c w row) (g : good (fun s => if s = i then x else w.1 s, w.2)) : wRel good c (fun s => if s = i then x else w.1 s, w.2) (fun k => if k = j then x else row k) := by
  obtain ⟨⟨r0, ry⟩, -, r1, r2, r3, r4, r5, r6, r7⟩ := r
  have nj : ∀ k, 5 ≤ k → ¬ k = j := by intro k hk; omega
  have ni : ∀ k, k ≤ 2 → ¬ k = i := by intro k hk; omega
  refine ⟨⟨?_, ry⟩, g, ?_, ?_, ?_, ?_, ?_, ?_, ?_⟩
  · show (if 0 = i then x else w.1 0) = c.1
    rw [if_neg (ni 0 (by decide))]; exact r0
  · show (if 0 = j then x else row 0) = if 5 = i then x else w.1 5
    rw [r1]; by_cases q : i = 5
    · rw [if_pos (by omega), if_pos q.symm]
    · rw [if_neg (by omega), if_neg (by omega)]
  · show (if 1 = j then x else row 1) = if 6 = i then x else w.1 6
    rw [r2]; by_cases q : i = 6
    · rw [if_pos (by omega), if_pos q.symm]
    · rw [if_neg (by omega), if_neg (by omega)]
  · show (if 2 = j then x else row 2) = if 7 = i then x else w.1 7
    rw [r3]; by_cases q : i = 7
    · rw [if_pos (by omega), if_pos q.symm]
    · rw [if_neg (by omega), if_neg (by omega)]
  · show (if 3 = j then x else row 3) = if 3 = i then x else w.1 3
    rw [r4]; by_cases q : i = 3
    · rw [if_pos (by omega), if_pos q.symm]
    · rw [if_neg (by omega), if_neg (by omega)]
  · show (if 4 = j then x else row 4) = if 4 = i then x else w.1 4
    rw [r5]; by_cases q : i = 4
    · rw [if_pos (by omega), if_pos q.symm]
    · rw [if_neg (by omega), if_neg (by omega)]
  · intro k hk
    show (if 5 + k = j then x else row (5 + k)) = _
    rw [if_neg (nj _ (by omega))]; exact r6 k hk
  · intro p hp
    obtain ⟨a1, a2, a3, a4, a5⟩ := r7 p hp
    refine ⟨?_, ?_, ?_, ?_, fun k hk => ?_⟩
    · show (if 11 + p = j then x else row (11 + p)) = _
      rw [if_neg (nj _ (by omega))]; exact a1
    · show (if 21 + p = j then x else row (21 + p)) = nb_b (nb_bit (if 1 = i then x else w.1 1) p)
      rw [if_neg (nj _ (by omega)), if_neg (ni 1 (by decide))]; exact a2
    · show (if 31 + p = j then x else row (31 + p)) = nb_b (nb_bit (if 2 = i then x else w.1 2) p)
      rw [if_neg (nj _ (by omega)), if_neg (ni 2 (by decide))]; exact a3
    · show (if 41 + p = j then x else row (41 + p)) = _
      rw [if_neg (nj _ (by omega))]; exact a4
    · show (if 51 + 8 * p + k = j then x else row (51 + 8 * p + k)) = _
      rw [if_neg (nj _ (by omega))]; exact a5 k hk
