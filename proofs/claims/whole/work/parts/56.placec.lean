/-! place, the class -/
theorem s_wo_add {E : gk_E} {d n : Nat} {h : gk_H} {K : Int32 → gk_H → Prop} {a0 : Int32} (hn : n < 10) (e : h.1 1 0 = nI n) (k : K (nI n) (gk_hf (gk_ha h 3 n a0) 1 0 (nI (n + 1)))) : gk_ci E (d + 1) jwo_add [.ref 1, .int a0] h K := by
  refine gk_ci_mk (x_wo_add ?_)
  unfold w_wo_add
  rw [e, nI_clamp (by omega)]
  refine ⟨fun _ => ⟨nI_in (by omega) (by decide), fun h1 q1 h2 q2 => ?_⟩, fun c => absurd (nI_lt (a := n) (b := 10) (by omega) (by decide)) c⟩
  have e1 : h1.1 1 0 + 1 = nI (n + 1) := by rw [q1]; show h.1 1 0 + 1 = _; rw [e]; exact nI_add n 1
  rw [e1, q1] at q2
  have e2 : h2.1 1 0 - 1 = nI n := by rw [q2, hf_f, if_pos ⟨rfl, rfl⟩]; exact nI_pred n
  show K (h2.1 1 0 - 1) h2
  rw [e2, q2]
  exact k
theorem s_dp_place {E : gk_E} {d n : Nat} {h : gk_H} {K : Int32 → gk_H → Prop} {a0 : Int32} (hn : n ≤ 10) (e : h.1 1 0 = nI n) (k0 : ¬ ((0 ≤ a0 ∧ a0 ≤ 99) ∧ n < 10) → K (-1) h) (k1 : (0 ≤ a0 ∧ a0 ≤ 99) → n < 10 → K (nI n) (gk_hf (gk_ha (gk_hf h 20 2 0) 3 n a0) 1 0 (nI (n + 1)))) : gk_ci E (d + 2) jdp_place [.ref 0, .int a0] h K := by
  refine gk_ci_mk (x_dp_place ?_)
  unfold w_dp_place
  refine s_dp_isWithin ⟨fun c => ?_, fun c => ⟨fun c2 => ?_, fun c2 => ?_⟩⟩
  · refine k0 ?_
    intro q
    rw [decide_eq_true q.1.1, decide_eq_true q.1.2] at c
    exact absurd c (by decide)
  · have hin : 0 ≤ a0 ∧ a0 ≤ 99 := by
      refine ⟨Decidable.byContradiction fun q => c ?_, Decidable.byContradiction fun q => c ?_⟩
      · rw [decide_eq_false q]; rfl
      · rw [decide_eq_false q, Bool.and_false]; rfl
    have hn' : n < 10 := by
      rcases Nat.lt_or_ge n 10 with q | q
      · exact q
      · rw [e, show n = 10 by omega] at c2
        exact absurd c2 (by decide)
    exact s_ps_forget (s_wo_add hn' (by rw [hf_f, if_neg (by decide)]; exact e) (k1 hin hn'))
  · refine k0 ?_
    intro q
    exact c2 (by rw [e]; exact nI_lt q.2 (by decide))
