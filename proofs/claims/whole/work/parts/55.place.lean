/-! place, the reference: at a place that is not there yet all is 0 already -/
theorem ha_same {h : gk_H} {k i : Nat} {x : Int32} (e : h.2.1 k i = x) : gk_ha h k i x = h := by
  refine Prod.ext rfl (Prod.ext ?_ rfl)
  funext k' s
  rw [ha_a]
  by_cases q : k' = k ∧ s = i
  · rw [if_pos q, q.1, q.2, e]
  · rw [if_neg q]
theorem l_mo_place {E : gk_E} {d n : Nat} {h : gk_H} {K : Int32 → gk_H → Prop} (e : h.1 112 6 = nI n) (hn : n < 10) (hz : ∀ r, r < 8 → h.2.1 113 (51 + 8 * n + r) = 0) (hQ : K (nI n) (gk_hf (gk_hf h 112 6 (nI (n + 1))) 112 3 0)) : ∀ m r : Nat, r + m = 8 → g_mo_place_91 E (d + 1) (gk_qi K) (nI r) h := by
  intro m
  induction m with
  | zero =>
    intro r hr
    have hr : r = 8 := by omega
    rw [hr]
    refine x_mo_place_91 ⟨fun _ h1 q1 h2 q2 => ?_, fun c => absurd (by decide) c⟩
    have e1 : h.1 112 6 + 1 = nI (n + 1) := by rw [e]; exact nI_add n 1
    rw [e1] at q1
    rw [q1] at q2
    have e2 : h2.1 112 6 - 1 = nI n := by
      rw [q2, hf_f, if_neg (by decide), hf_f, if_pos ⟨rfl, rfl⟩]
      exact nI_pred n
    show K (h2.1 112 6 - 1) h2
    rw [e2, q2]
    exact hQ
  | succ m ih =>
    intro r hr
    refine x_mo_place_91 ⟨fun c => absurd c (nI_ge (a := r) (b := 8) (by omega) (by decide)), fun _ => ?_⟩
    rw [e]
    refine s_mo_rowAt ?_
    rw [nI_clamp (by omega)]
    refine ⟨nI_in (by omega) (by decide), fun h2 q2 x hx => ?_⟩
    rw [hx, q2, ha_same (hz r (by omega)), show nI r + 1 = nI (r + 1) from nI_add r 1]
    exact ih (r + 1) (by omega)
theorem s_mo_place {E : gk_E} {d n : Nat} {h : gk_H} {K : Int32 → gk_H → Prop} {a0 : Int32} (hn : n ≤ 10) (e : h.1 112 6 = nI n) (hz : n < 10 → h.2.1 113 (11 + n) = 0 ∧ h.2.1 113 (21 + n) = 0 ∧ h.2.1 113 (31 + n) = 0 ∧ h.2.1 113 (41 + n) = 0 ∧ ∀ r, r < 8 → h.2.1 113 (51 + 8 * n + r) = 0)
    (k0 : ¬ ((0 ≤ a0 ∧ a0 ≤ 99) ∧ n < 10) → K (-1) (gk_hf h 112 0 0)) (k1 : (0 ≤ a0 ∧ a0 ≤ 99) → n < 10 → K (nI n) (gk_hf (gk_hf (gk_ha (gk_hf h 112 0 0) 116 n a0) 112 6 (nI (n + 1))) 112 3 0)) : gk_ci E (d + 2) jmo_place [.ref 112, .int a0] h K := by
  refine gk_ci_mk (x_mo_place ?_)
  intro h1 q1
  have e0 : h1.1 112 6 = nI n := by rw [q1, hf_f, if_neg (by decide)]; exact e
  have z1 : h1.2.1 = h.2.1 := by rw [q1]; rfl
  refine s_mo_isIn ⟨fun c => ?_, fun c => ⟨fun c2 => ?_, fun c2 => ?_⟩⟩
  · have : ¬ ((0 ≤ a0 ∧ a0 ≤ 99) ∧ n < 10) := by
      intro q
      rw [decide_eq_true q.1.1, decide_eq_true q.1.2] at c
      exact absurd c (by decide)
    rw [q1]
    exact k0 this
  · have hin : 0 ≤ a0 ∧ a0 ≤ 99 := by
      refine ⟨Decidable.byContradiction fun q => c ?_, Decidable.byContradiction fun q => c ?_⟩
      · rw [decide_eq_false q]; rfl
      · rw [decide_eq_false q, Bool.and_false]; rfl
    have hn' : n < 10 := by
      rcases Nat.lt_or_ge n 10 with q | q
      · exact q
      · exact absurd (by rw [e0, show n = 10 by omega]; rfl) c2
    obtain ⟨y1, y2, y3, y4, y5⟩ := hz hn'
    have k2 := k1 hin hn'
    rw [← q1] at k2
    rw [e0, nI_clamp (by omega)]
    refine ⟨nI_in (by omega) (by decide), fun h4 q4 => ?_⟩
    have e4 : h4.1 112 6 = nI n := by rw [q4]; exact e0
    have z4 : ∀ j, h4.2.1 113 j = h.2.1 113 j := by intro j; rw [q4, ha_a, if_neg (fun q => absurd q.1 (by decide)), z1]
    rw [← q4] at k2
    rw [e4, show (11 : Int32) + nI n = nI (11 + n) from nI_add 11 n, nI_clamp (by omega)]
    refine ⟨nI_in (by omega) (by decide), fun h5 q5 => ?_⟩
    rw [ha_same ((z4 _).trans y1)] at q5
    rw [q5, e4, show (21 : Int32) + nI n = nI (21 + n) from nI_add 21 n, nI_clamp (by omega)]
    refine ⟨nI_in (by omega) (by decide), fun h6 q6 => ?_⟩
    rw [ha_same ((z4 _).trans y2)] at q6
    rw [q6, e4, show (31 : Int32) + nI n = nI (31 + n) from nI_add 31 n, nI_clamp (by omega)]
    refine ⟨nI_in (by omega) (by decide), fun h7 q7 => ?_⟩
    rw [ha_same ((z4 _).trans y3)] at q7
    rw [q7, e4, show (41 : Int32) + nI n = nI (41 + n) from nI_add 41 n, nI_clamp (by omega)]
    refine ⟨nI_in (by omega) (by decide), fun h8 q8 x hx => ?_⟩
    rw [ha_same ((z4 _).trans y4)] at q8
    rw [q8, hx]
    exact l_mo_place e4 hn' (fun r hr => (z4 _).trans (y5 r hr)) k2 8 0 rfl
  · have : ¬ ((0 ≤ a0 ∧ a0 ≤ 99) ∧ n < 10) := by
      intro q
      have q3 := e0.symm.trans c2
      have := (nI_eq (a := n) (b := 10) (by omega) (by decide)).mp q3
      omega
    rw [q1]
    exact k0 this
