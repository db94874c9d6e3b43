/-! going back, the reference; loops that copy -/
def h_cp (h : gk_H) (k k0 o t n : Nat) : gk_H := (h.1, fun k' i => if k' = k ∧ t ≤ i ∧ i < t + n then h.2.1 k0 (o + (i - t)) else h.2.1 k' i, h.2.2)
theorem h_cp_0 (h : gk_H) (k k0 o t : Nat) : h_cp h k k0 o t 0 = h := by
  refine Prod.ext rfl (Prod.ext ?_ rfl)
  funext k' i
  have : ¬ (t ≤ i ∧ i < t + 0) := by omega
  simp only [h_cp, this, and_false, if_false]
theorem h_cp_s {h : gk_H} {k k0 o t n : Nat} (hne : k0 ≠ k ∨ t ≤ o) : gk_ha (h_cp h k k0 o t n) k (t + n) ((h_cp h k k0 o t n).2.1 k0 (o + n)) = h_cp h k k0 o t (n + 1) := by
  refine Prod.ext rfl (Prod.ext ?_ rfl)
  funext k' i
  rw [ha_a]
  have e0 : (h_cp h k k0 o t n).2.1 k0 (o + n) = h.2.1 k0 (o + n) := by
    simp only [h_cp]
    rw [if_neg]
    intro ⟨q1, q2, q3⟩
    rcases hne with q | q
    · exact q q1
    · omega
  rw [e0]
  simp only [h_cp]
  by_cases e : k' = k
  · by_cases e2 : i = t + n
    · have q : t ≤ i ∧ i < t + (n + 1) := by omega
      rw [if_pos ⟨e, e2⟩, if_pos ⟨e, q⟩]
      have : o + (i - t) = o + n := by omega
      rw [this]
    · rw [if_neg (fun q => e2 q.2)]
      by_cases e3 : t ≤ i ∧ i < t + n
      · rw [if_pos ⟨e, e3⟩, if_pos ⟨e, by omega⟩]
      · rw [if_neg (fun q => e3 q.2), if_neg (fun q => e3 (by omega))]
  · rw [if_neg (fun q => e q.1), if_neg (fun q => e q.1), if_neg (fun q => e q.1)]
theorem nI_mulN (a b : Nat) : nI a * nI b = nI (a * b) := (Int32.ofNat_mul a b).symm
theorem l_mo_undo {E : gk_E} {d m : Nat} {h : gk_H} {K : Int32 → gk_H → Prop} (e : h.1 112 3 = nI m) (hm : m < 6) (hQ : K 1 (h_cp h 113 114 (131 * m) 0 131)) : ∀ n j : Nat, j + n = 131 → g_mo_undo_26 E d (gk_qi K) (nI j) (h_cp h 113 114 (131 * m) 0 j) := by
  intro n
  induction n with
  | zero =>
    intro j hj
    have hj : j = 131 := by omega
    rw [hj]
    exact x_mo_undo_26 ⟨fun _ => ⟨Or.inr rfl, hQ⟩, fun c => absurd (by decide) c⟩
  | succ n ih =>
    intro j hj
    refine x_mo_undo_26 ⟨fun c => absurd c (nI_ge (a := j) (b := 131) (by omega) (by decide)), fun _ => ?_⟩
    have e1 : (131 : Int32) * (h_cp h 113 114 (131 * m) 0 j).1 112 3 + nI j = nI (131 * m + j) := by
      show nI 131 * h.1 112 3 + nI j = _
      rw [e, nI_mulN, nI_add]
    rw [e1, nI_clamp (n := 131 * m + j) (by omega), nI_clamp (n := j) (by omega)]
    refine ⟨nI_in (by omega) (by decide), nI_in (by omega) (by decide), fun hx ehx x hx2 => ?_⟩
    rw [hx2, ehx, show nI j + 1 = nI (j + 1) from nI_add j 1]
    have := h_cp_s (h := h) (k := 113) (k0 := 114) (o := 131 * m) (t := 0) (n := j) (Or.inl (by decide))
    rw [Nat.zero_add] at this
    rw [this]
    exact ih (j + 1) (by omega)
theorem s_mo_undo {E : gk_E} {d : Nat} {h : gk_H} {K : Int32 → gk_H → Prop} {n : Nat} (hn : n ≤ 6) (e : h.1 112 3 = nI n) (k0 : n = 0 → K 0 (gk_hf h 112 0 0)) (k1 : ∀ m, n = m + 1 → K 1 (h_cp (gk_hf (gk_hf h 112 0 0) 112 3 (nI m)) 113 114 (131 * m) 0 131)) : gk_ci E (d + 1) jmo_undo [.ref 112] h K := by
  refine gk_ci_mk (x_mo_undo ?_)
  unfold w_mo_undo
  intro h1 eh1
  rw [eh1]
  have a1 : (gk_hf h 112 0 0).1 112 3 = nI n := by rw [hf_f]; simpa using e
  rw [a1]
  refine ⟨fun c => ?_, fun c => ?_⟩
  · cases n with
    | zero => exact absurd rfl c
    | succ m =>
      rw [(rg_1 m (by omega)).1]
      intro h2 eh2 x hx
      rw [hx, eh2]
      have := l_mo_undo (E := E) (d := d) (h := gk_hf (gk_hf h 112 0 0) 112 3 (nI m)) (m := m) (by rw [hf_f]; simp) (by omega) (k1 m rfl) 131 0 rfl
      rw [h_cp_0] at this
      exact this
  · cases n with
    | zero => exact ⟨Or.inl rfl, k0 rfl⟩
    | succ m => exact absurd c (rg_1 m (by omega)).2.1
