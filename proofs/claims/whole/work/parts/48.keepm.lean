/-! keeping ahead, the reference -/
theorem l_ka57 {E : gk_E} {d m : Nat} {h : gk_H} {K : gk_H → Prop} (e : h.1 112 3 = nI m) (hm : m < 6) (hQ : K (gk_hf (h_cp h 114 113 0 (131 * m) 131) 112 3 (nI (m + 1)))) : ∀ n j : Nat, j + n = 131 → g_mo_keepsAhead_57 E d (gk_qv K) (nI j) (h_cp h 114 113 0 (131 * m) j) := by
  intro n
  induction n with
  | zero =>
    intro j hj
    have hj : j = 131 := by omega
    rw [hj]
    refine x_mo_keepsAhead_57 ⟨fun _ h4 q4 => ?_, fun c => absurd (by decide) c⟩
    rw [q4]
    have e1 : (h_cp h 114 113 0 (131 * m) 131).1 112 3 + 1 = nI (m + 1) := by
      show h.1 112 3 + nI 1 = _
      rw [e, nI_add]
    rw [e1]
    exact hQ
  | succ n ih =>
    intro j hj
    refine x_mo_keepsAhead_57 ⟨fun c => absurd c (nI_ge (a := j) (b := 131) (by omega) (by decide)), fun _ => ?_⟩
    have e1 : (131 : Int32) * (h_cp h 114 113 0 (131 * m) j).1 112 3 + nI j = nI (131 * m + j) := by
      show nI 131 * h.1 112 3 + nI j = _
      rw [e, nI_mulN, nI_add]
    rw [e1, nI_clamp (n := 131 * m + j) (by omega), nI_clamp (n := j) (by omega)]
    refine ⟨nI_in (by omega) (by decide), nI_in (by omega) (by decide), fun hx ehx x hx2 => ?_⟩
    rw [hx2, ehx, show nI j + 1 = nI (j + 1) from nI_add j 1]
    have := h_cp_s (h := h) (k := 114) (k0 := 113) (o := 0) (t := 131 * m) (n := j) (Or.inl (by decide))
    rw [Nat.zero_add] at this
    rw [this]
    exact ih (j + 1) (by omega)
theorem l_ka21 {E : gk_E} {d : Nat} {h : gk_H} {K : gk_H → Prop} (e : h.1 112 3 = nI 5) (hQ : K (gk_hf (h_cp (h_cp h 114 114 131 0 655) 114 113 0 655 131) 112 3 (nI 6))) : ∀ n j : Nat, j + n = 655 → g_mo_keepsAhead_21 E d (gk_qv K) (nI j) (h_cp h 114 114 131 0 j) := by
  intro n
  have e1 : ∀ j : Nat, (131 : Int32) * (h_cp h 114 114 131 0 j).1 112 3 = nI 655 := by
    intro j
    show nI 131 * h.1 112 3 = _
    rw [e, nI_mulN]
  induction n with
  | zero =>
    intro j hj
    have hj : j = 655 := by omega
    rw [hj]
    refine x_mo_keepsAhead_21 ⟨fun _ x hx => ?_, fun c => absurd (by rw [e1]; exact nI_le (Nat.le_refl _) (by decide)) c⟩
    rw [hx]
    have := l_ka57 (E := E) (d := d) (m := 5) (h := h_cp h 114 114 131 0 655) (K := K) e (by decide) hQ 131 0 rfl
    rw [h_cp_0] at this
    exact this
  | succ n ih =>
    intro j hj
    refine x_mo_keepsAhead_21 ⟨fun c => absurd (by rw [e1] at c; exact c) (nI_ge (a := j) (b := 655) (by omega) (by decide)), fun _ => ?_⟩
    have e2 : nI j + (131 : Int32) = nI (131 + j) := by
      rw [Nat.add_comm]
      exact nI_add j 131
    rw [e2, nI_clamp (n := 131 + j) (by omega), nI_clamp (n := j) (by omega)]
    refine ⟨nI_in (by omega) (by decide), nI_in (by omega) (by decide), fun hx ehx x hx2 => ?_⟩
    rw [hx2, ehx, show nI j + 1 = nI (j + 1) from nI_add j 1]
    have := h_cp_s (h := h) (k := 114) (k0 := 114) (o := 131) (t := 0) (n := j) (Or.inr (by decide))
    rw [Nat.zero_add] at this
    rw [this]
    exact ih (j + 1) (by omega)
theorem s_mo_keepsAhead {E : gk_E} {d : Nat} {h : gk_H} {K : gk_H → Prop} {n : Nat} (hn : n ≤ 6) (e : h.1 112 3 = nI n) (k0 : n < 6 → K (gk_hf (h_cp h 114 113 0 (131 * n) 131) 112 3 (nI (n + 1)))) (k1 : n = 6 → K (gk_hf (h_cp (h_cp (gk_hf h 112 3 (nI 5)) 114 114 131 0 655) 114 113 0 655 131) 112 3 (nI 6))) : gk_cv E (d + 1) jmo_keepsAhead [.ref 112] h K := by
  refine gk_cv_mk (x_mo_keepsAhead ?_)
  unfold w_mo_keepsAhead
  refine ⟨fun c x hx => ?_, fun c h2 q2 x hx => ?_⟩
  · have hn6 : n < 6 := by
      rcases Nat.lt_or_ge n 6 with q | q
      · exact q
      · exact absurd (by rw [e, show n = 6 by omega]; rfl) c
    rw [hx]
    have := l_ka57 (E := E) (d := d) (K := K) e hn6 (k0 hn6) 131 0 rfl
    rw [h_cp_0] at this
    exact this
  · have hn6 : n = 6 := by
      rcases Nat.lt_or_ge n 6 with q | q
      · exact absurd (e.symm.trans c) (rg_2 n q)
      · omega
    rw [c, show (6 : Int32) - 1 = nI 5 by decide] at q2
    rw [hx, q2]
    have := l_ka21 (E := E) (d := d) (K := K) (h := gk_hf h 112 3 (nI 5)) (by rw [hf_f, if_pos ⟨rfl, rfl⟩]) (k1 hn6) 655 0 rfl
    rw [h_cp_0] at this
    exact this
