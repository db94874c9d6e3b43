/-! is there such a place -/
theorem s_wo_has_1 {E : gk_E} {d n : Nat} {h : gk_H} {K : Int32 → gk_H → Prop} {p : Int32} (hn : n ≤ 10) (e : h.1 1 0 = nI n) (k0 : (¬ ∃ q, q < n ∧ p = nI q) → K 0 h) (k1 : ∀ q, q < n → p = nI q → K 1 h) : gk_ci E (d + 1) jwo_has [.ref 1, .int p] h K := by
  refine gk_ci_mk (x_wo_has_1 ?_)
  unfold w_wo_has_1
  rw [e]
  have hne : p < 0 → ¬ ∃ q, q < n ∧ p = nI q := fun c ⟨q, hq, eq⟩ => by rw [eq] at c; exact nI_pos (by omega) c
  refine ⟨fun c => ⟨Or.inl rfl, k0 (hne c)⟩, fun c => ?_⟩
  obtain ⟨j, hj, ej⟩ := nI_of c
  rw [ej]
  refine ⟨fun c2 => ⟨Or.inl rfl, k0 ?_⟩, fun c2 => ⟨Or.inr rfl, ?_⟩⟩
  · intro ⟨q, hq, eq⟩
    have e3 := (nI_eq hj (by omega)).mp (ej.symm.trans eq)
    have := (nI_leI (by omega) hj).mp c2
    omega
  · have : ¬ n ≤ j := fun q => c2 ((nI_leI (by omega) hj).mpr q)
    exact k1 j (by omega) ej
theorem s_mo_isPlace {E : gk_E} {d n : Nat} {h : gk_H} {K : Int32 → gk_H → Prop} {p : Int32} (hn : n ≤ 10) (e : h.1 112 6 = nI n) (k0 : (¬ ∃ q, q < n ∧ p = nI q) → K 0 h) (k1 : ∀ q, q < n → p = nI q → K 1 h) : gk_ci E (d + 1) jmo_isPlace [.ref 112, .int p] h K := by
  refine gk_ci_mk (x_mo_isPlace ?_)
  unfold w_mo_isPlace
  rw [e]
  have hne : p < 0 → ¬ ∃ q, q < n ∧ p = nI q := fun c ⟨q, hq, eq⟩ => by rw [eq] at c; exact nI_pos (by omega) c
  refine ⟨fun c => ⟨Or.inl rfl, k0 (hne c)⟩, fun c => ?_⟩
  obtain ⟨j, hj, ej⟩ := nI_of c
  rw [ej]
  refine ⟨fun c2 => ⟨Or.inl rfl, k0 ?_⟩, fun c2 => ⟨Or.inr rfl, ?_⟩⟩
  · intro ⟨q, hq, eq⟩
    have e3 := (nI_eq hj (by omega)).mp (ej.symm.trans eq)
    have := (nI_leI (by omega) hj).mp c2
    omega
  · have : ¬ n ≤ j := fun q => c2 ((nI_leI (by omega) hj).mpr q)
    exact k1 j (by omega) ej
