/-! row, the reference -/
theorem in_b {lo hi v : Int32} : (nb_b (decide (lo ≤ v) && decide (v ≤ hi)) = 0 → ¬ (lo ≤ v ∧ v ≤ hi)) ∧ (¬ nb_b (decide (lo ≤ v) && decide (v ≤ hi)) = 0 → lo ≤ v ∧ v ≤ hi) := by
  refine ⟨fun c q => ?_, fun c => ⟨Decidable.byContradiction fun q => c ?_, Decidable.byContradiction fun q => c ?_⟩⟩
  · rw [decide_eq_true q.1, decide_eq_true q.2] at c
    exact absurd c (by decide)
  · rw [decide_eq_false q]; rfl
  · rw [decide_eq_false q, Bool.and_false]; rfl
theorem s_mo_row {E : gk_E} {d n : Nat} {h : gk_H} {K : Int32 → gk_H → Prop} {a0 a1 a2 : Int32} (hn : n ≤ 10) (e : h.1 112 6 = nI n) (k0 : (¬ ((∃ p, p < n ∧ a0 = nI p) ∧ (0 ≤ a1 ∧ a1 ≤ 7) ∧ (0 ≤ a2 ∧ a2 ≤ 255))) → K 0 (gk_hf h 112 0 0))
    (k1 : ∀ p r, p < n → r < 8 → a0 = nI p → a1 = nI r → (0 ≤ a1 ∧ a1 ≤ 7) → (0 ≤ a2 ∧ a2 ≤ 255) → K 1 (gk_hf (gk_ha (gk_hf h 112 0 0) 113 (51 + 8 * p + r) a2) 112 3 0)) : gk_ci E (d + 2) jmo_row [.ref 112, .int a0, .int a1, .int a2] h K := by
  refine gk_ci_mk (x_mo_row ?_)
  intro h1 q1
  rw [← q1] at k0 k1
  have e1 : h1.1 112 6 = nI n := by rw [q1, hf_f, if_neg (by decide)]; exact e
  refine s_mo_isPlace hn e1 (fun c => ⟨fun _ => ⟨Or.inl rfl, k0 (fun q => c q.1)⟩, fun c2 => absurd rfl c2⟩) (fun p hp ep => ⟨fun c2 => absurd c2 (by decide), fun _ => ?_⟩)
  refine s_mo_isIn ⟨fun c => ⟨Or.inl rfl, k0 (fun q => in_b.1 c q.2.1)⟩, fun c => ?_⟩
  have i1 := in_b.2 c
  refine s_mo_isIn ⟨fun c2 => ?_, fun c2 => ⟨Or.inl rfl, k0 (fun q => in_b.1 c2 q.2.2)⟩⟩
  have i2 := in_b.2 c2
  obtain ⟨r, hr, er⟩ := nI_of2 (M := 7) (n := 7) (by decide) (Int32.not_lt.mpr i1.1) i1.2
  have k2 := k1 p r hp (by omega) ep er i1 i2
  rw [ep, er]
  refine s_mo_rowAt ⟨nI_in (by omega) (by decide), fun h2 q2 h3 q3 => ⟨Or.inr rfl, ?_⟩⟩
  rw [nI_clamp (by omega)] at q2
  rw [q3, q2]
  exact k2
