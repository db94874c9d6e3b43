/-! a world of the class: small specs, and its copy -/
section
variable {E : gk_E} {d : Nat} {h : gk_H} {K : Int32 → gk_H → Prop}
theorem s_dp_isWithin {v lo hi : Int32} (hk : K (nb_b (decide (lo ≤ v) && decide (v ≤ hi))) h) : gk_ci E (d + 1) jdp_isWithin [.int v, .int lo, .int hi] h K := by
  refine gk_ci_mk (x_dp_isWithin ?_)
  unfold w_dp_isWithin
  refine ⟨fun c => ⟨Or.inl rfl, ?_⟩, fun c => ⟨fun c2 => ⟨Or.inl rfl, ?_⟩, fun c2 => ⟨Or.inr rfl, ?_⟩⟩⟩
  · have e : decide (lo ≤ v) = false := decide_eq_false (Int32.not_le.mpr c)
    rw [e] at hk; exact hk
  · have e : decide (v ≤ hi) = false := decide_eq_false (Int32.not_le.mpr c2)
    rw [e, Bool.and_false] at hk; exact hk
  · have e : decide (v ≤ hi) = true := decide_eq_true (Int32.not_lt.mp c2)
    have e2 : decide (lo ≤ v) = true := decide_eq_true (Int32.not_lt.mp c)
    rw [e, e2] at hk; exact hk
theorem s_ps_forget {K : gk_H → Prop} (hk : K (gk_hf h 20 2 0)) : gk_cv E (d + 1) jps_forget [.ref 20] h K := gk_cv_mk (x_ps_forget hk)
end
def hv_copy (h : gk_H) (a b : Nat) : gk_H := gk_hc (gk_hc (gk_hc (gk_hc (gk_hcl ((fun h => gk_hf h a 7 (h.1 b 7)) ((fun h => gk_hf h a 6 (h.1 b 6)) ((fun h => gk_hf h a 5 (h.1 b 5)) ((fun h => gk_hf h a 4 (h.1 b 4)) ((fun h => gk_hf h a 3 (h.1 b 3)) ((fun h => gk_hf h a 2 (h.1 b 2)) ((fun h => gk_hf h a 1 (h.1 b 1)) (gk_hf h a 0 (h.1 b 0))))))))) (a + 1) (b + 1) 0 0 10) (a + 2) (b + 2) 0 0 10) (a + 3) (b + 3) 0 0 10) (a + 4) (b + 4) 0 0 10) (a + 5) (b + 5) 0 0 6
theorem s_wo_copy_1_22 {E : gk_E} {d : Nat} {h : gk_H} {K : gk_H → Prop} (hk : K (hv_copy h 1 22)) : gk_cv E (d + 2) jwo_copy [.ref 1, .ref 22] h K := by
  refine gk_cv_mk (x_wo_copy_1_22 ?_)
  unfold w_wo_copy_1_22
  rintro _ rfl _ rfl _ rfl _ rfl _ rfl _ rfl _ rfl _ rfl
  refine ⟨⟨Nat.le_add_left 1 _, by decide, by decide, by decide, by decide, by decide⟩, ?_⟩
  rintro _ rfl
  refine ⟨⟨Nat.le_add_left 1 _, by decide, by decide, by decide, by decide, by decide⟩, ?_⟩
  rintro _ rfl
  refine ⟨⟨Nat.le_add_left 1 _, by decide, by decide, by decide, by decide, by decide⟩, ?_⟩
  rintro _ rfl
  refine ⟨⟨Nat.le_add_left 1 _, by decide, by decide, by decide, by decide, by decide⟩, ?_⟩
  rintro _ rfl
  refine ⟨⟨Nat.le_add_left 1 _, by decide, by decide, by decide, by decide, by decide⟩, ?_⟩
  rintro _ rfl
  exact hk
theorem s_wo_copy_1_28 {E : gk_E} {d : Nat} {h : gk_H} {K : gk_H → Prop} (hk : K (hv_copy h 1 28)) : gk_cv E (d + 2) jwo_copy [.ref 1, .ref 28] h K := by
  refine gk_cv_mk (x_wo_copy_1_28 ?_)
  unfold w_wo_copy_1_28
  rintro _ rfl _ rfl _ rfl _ rfl _ rfl _ rfl _ rfl _ rfl
  refine ⟨⟨Nat.le_add_left 1 _, by decide, by decide, by decide, by decide, by decide⟩, ?_⟩
  rintro _ rfl
  refine ⟨⟨Nat.le_add_left 1 _, by decide, by decide, by decide, by decide, by decide⟩, ?_⟩
  rintro _ rfl
  refine ⟨⟨Nat.le_add_left 1 _, by decide, by decide, by decide, by decide, by decide⟩, ?_⟩
  rintro _ rfl
  refine ⟨⟨Nat.le_add_left 1 _, by decide, by decide, by decide, by decide, by decide⟩, ?_⟩
  rintro _ rfl
  refine ⟨⟨Nat.le_add_left 1 _, by decide, by decide, by decide, by decide, by decide⟩, ?_⟩
  rintro _ rfl
  exact hk
theorem s_wo_copy_1_34 {E : gk_E} {d : Nat} {h : gk_H} {K : gk_H → Prop} (hk : K (hv_copy h 1 34)) : gk_cv E (d + 2) jwo_copy [.ref 1, .ref 34] h K := by
  refine gk_cv_mk (x_wo_copy_1_34 ?_)
  unfold w_wo_copy_1_34
  rintro _ rfl _ rfl _ rfl _ rfl _ rfl _ rfl _ rfl _ rfl
  refine ⟨⟨Nat.le_add_left 1 _, by decide, by decide, by decide, by decide, by decide⟩, ?_⟩
  rintro _ rfl
  refine ⟨⟨Nat.le_add_left 1 _, by decide, by decide, by decide, by decide, by decide⟩, ?_⟩
  rintro _ rfl
  refine ⟨⟨Nat.le_add_left 1 _, by decide, by decide, by decide, by decide, by decide⟩, ?_⟩
  rintro _ rfl
  refine ⟨⟨Nat.le_add_left 1 _, by decide, by decide, by decide, by decide, by decide⟩, ?_⟩
  rintro _ rfl
  refine ⟨⟨Nat.le_add_left 1 _, by decide, by decide, by decide, by decide, by decide⟩, ?_⟩
  rintro _ rfl
  exact hk
theorem s_wo_copy_1_40 {E : gk_E} {d : Nat} {h : gk_H} {K : gk_H → Prop} (hk : K (hv_copy h 1 40)) : gk_cv E (d + 2) jwo_copy [.ref 1, .ref 40] h K := by
  refine gk_cv_mk (x_wo_copy_1_40 ?_)
  unfold w_wo_copy_1_40
  rintro _ rfl _ rfl _ rfl _ rfl _ rfl _ rfl _ rfl _ rfl
  refine ⟨⟨Nat.le_add_left 1 _, by decide, by decide, by decide, by decide, by decide⟩, ?_⟩
  rintro _ rfl
  refine ⟨⟨Nat.le_add_left 1 _, by decide, by decide, by decide, by decide, by decide⟩, ?_⟩
  rintro _ rfl
  refine ⟨⟨Nat.le_add_left 1 _, by decide, by decide, by decide, by decide, by decide⟩, ?_⟩
  rintro _ rfl
  refine ⟨⟨Nat.le_add_left 1 _, by decide, by decide, by decide, by decide, by decide⟩, ?_⟩
  rintro _ rfl
  refine ⟨⟨Nat.le_add_left 1 _, by decide, by decide, by decide, by decide, by decide⟩, ?_⟩
  rintro _ rfl
  exact hk
theorem s_wo_copy_1_46 {E : gk_E} {d : Nat} {h : gk_H} {K : gk_H → Prop} (hk : K (hv_copy h 1 46)) : gk_cv E (d + 2) jwo_copy [.ref 1, .ref 46] h K := by
  refine gk_cv_mk (x_wo_copy_1_46 ?_)
  unfold w_wo_copy_1_46
  rintro _ rfl _ rfl _ rfl _ rfl _ rfl _ rfl _ rfl _ rfl
  refine ⟨⟨Nat.le_add_left 1 _, by decide, by decide, by decide, by decide, by decide⟩, ?_⟩
  rintro _ rfl
  refine ⟨⟨Nat.le_add_left 1 _, by decide, by decide, by decide, by decide, by decide⟩, ?_⟩
  rintro _ rfl
  refine ⟨⟨Nat.le_add_left 1 _, by decide, by decide, by decide, by decide, by decide⟩, ?_⟩
  rintro _ rfl
  refine ⟨⟨Nat.le_add_left 1 _, by decide, by decide, by decide, by decide, by decide⟩, ?_⟩
  rintro _ rfl
  refine ⟨⟨Nat.le_add_left 1 _, by decide, by decide, by decide, by decide, by decide⟩, ?_⟩
  rintro _ rfl
  exact hk
theorem s_wo_copy_1_52 {E : gk_E} {d : Nat} {h : gk_H} {K : gk_H → Prop} (hk : K (hv_copy h 1 52)) : gk_cv E (d + 2) jwo_copy [.ref 1, .ref 52] h K := by
  refine gk_cv_mk (x_wo_copy_1_52 ?_)
  unfold w_wo_copy_1_52
  rintro _ rfl _ rfl _ rfl _ rfl _ rfl _ rfl _ rfl _ rfl
  refine ⟨⟨Nat.le_add_left 1 _, by decide, by decide, by decide, by decide, by decide⟩, ?_⟩
  rintro _ rfl
  refine ⟨⟨Nat.le_add_left 1 _, by decide, by decide, by decide, by decide, by decide⟩, ?_⟩
  rintro _ rfl
  refine ⟨⟨Nat.le_add_left 1 _, by decide, by decide, by decide, by decide, by decide⟩, ?_⟩
  rintro _ rfl
  refine ⟨⟨Nat.le_add_left 1 _, by decide, by decide, by decide, by decide, by decide⟩, ?_⟩
  rintro _ rfl
  refine ⟨⟨Nat.le_add_left 1 _, by decide, by decide, by decide, by decide, by decide⟩, ?_⟩
  rintro _ rfl
  exact hk
theorem s_wo_copy_1_93 {E : gk_E} {d : Nat} {h : gk_H} {K : gk_H → Prop} (hk : K (hv_copy h 1 93)) : gk_cv E (d + 2) jwo_copy [.ref 1, .ref 93] h K := by
  refine gk_cv_mk (x_wo_copy_1_93 ?_)
  unfold w_wo_copy_1_93
  rintro _ rfl _ rfl _ rfl _ rfl _ rfl _ rfl _ rfl _ rfl
  refine ⟨⟨Nat.le_add_left 1 _, by decide, by decide, by decide, by decide, by decide⟩, ?_⟩
  rintro _ rfl
  refine ⟨⟨Nat.le_add_left 1 _, by decide, by decide, by decide, by decide, by decide⟩, ?_⟩
  rintro _ rfl
  refine ⟨⟨Nat.le_add_left 1 _, by decide, by decide, by decide, by decide, by decide⟩, ?_⟩
  rintro _ rfl
  refine ⟨⟨Nat.le_add_left 1 _, by decide, by decide, by decide, by decide, by decide⟩, ?_⟩
  rintro _ rfl
  refine ⟨⟨Nat.le_add_left 1 _, by decide, by decide, by decide, by decide, by decide⟩, ?_⟩
  rintro _ rfl
  exact hk
theorem s_wo_copy_22_1 {E : gk_E} {d : Nat} {h : gk_H} {K : gk_H → Prop} (hk : K (hv_copy h 22 1)) : gk_cv E (d + 2) jwo_copy [.ref 22, .ref 1] h K := by
  refine gk_cv_mk (x_wo_copy_22_1 ?_)
  unfold w_wo_copy_22_1
  rintro _ rfl _ rfl _ rfl _ rfl _ rfl _ rfl _ rfl _ rfl
  refine ⟨⟨Nat.le_add_left 1 _, by decide, by decide, by decide, by decide, by decide⟩, ?_⟩
  rintro _ rfl
  refine ⟨⟨Nat.le_add_left 1 _, by decide, by decide, by decide, by decide, by decide⟩, ?_⟩
  rintro _ rfl
  refine ⟨⟨Nat.le_add_left 1 _, by decide, by decide, by decide, by decide, by decide⟩, ?_⟩
  rintro _ rfl
  refine ⟨⟨Nat.le_add_left 1 _, by decide, by decide, by decide, by decide, by decide⟩, ?_⟩
  rintro _ rfl
  refine ⟨⟨Nat.le_add_left 1 _, by decide, by decide, by decide, by decide, by decide⟩, ?_⟩
  rintro _ rfl
  exact hk
theorem s_wo_copy_28_1 {E : gk_E} {d : Nat} {h : gk_H} {K : gk_H → Prop} (hk : K (hv_copy h 28 1)) : gk_cv E (d + 2) jwo_copy [.ref 28, .ref 1] h K := by
  refine gk_cv_mk (x_wo_copy_28_1 ?_)
  unfold w_wo_copy_28_1
  rintro _ rfl _ rfl _ rfl _ rfl _ rfl _ rfl _ rfl _ rfl
  refine ⟨⟨Nat.le_add_left 1 _, by decide, by decide, by decide, by decide, by decide⟩, ?_⟩
  rintro _ rfl
  refine ⟨⟨Nat.le_add_left 1 _, by decide, by decide, by decide, by decide, by decide⟩, ?_⟩
  rintro _ rfl
  refine ⟨⟨Nat.le_add_left 1 _, by decide, by decide, by decide, by decide, by decide⟩, ?_⟩
  rintro _ rfl
  refine ⟨⟨Nat.le_add_left 1 _, by decide, by decide, by decide, by decide, by decide⟩, ?_⟩
  rintro _ rfl
  refine ⟨⟨Nat.le_add_left 1 _, by decide, by decide, by decide, by decide, by decide⟩, ?_⟩
  rintro _ rfl
  exact hk
theorem s_wo_copy_34_1 {E : gk_E} {d : Nat} {h : gk_H} {K : gk_H → Prop} (hk : K (hv_copy h 34 1)) : gk_cv E (d + 2) jwo_copy [.ref 34, .ref 1] h K := by
  refine gk_cv_mk (x_wo_copy_34_1 ?_)
  unfold w_wo_copy_34_1
  rintro _ rfl _ rfl _ rfl _ rfl _ rfl _ rfl _ rfl _ rfl
  refine ⟨⟨Nat.le_add_left 1 _, by decide, by decide, by decide, by decide, by decide⟩, ?_⟩
  rintro _ rfl
  refine ⟨⟨Nat.le_add_left 1 _, by decide, by decide, by decide, by decide, by decide⟩, ?_⟩
  rintro _ rfl
  refine ⟨⟨Nat.le_add_left 1 _, by decide, by decide, by decide, by decide, by decide⟩, ?_⟩
  rintro _ rfl
  refine ⟨⟨Nat.le_add_left 1 _, by decide, by decide, by decide, by decide, by decide⟩, ?_⟩
  rintro _ rfl
  refine ⟨⟨Nat.le_add_left 1 _, by decide, by decide, by decide, by decide, by decide⟩, ?_⟩
  rintro _ rfl
  exact hk
theorem s_wo_copy_40_1 {E : gk_E} {d : Nat} {h : gk_H} {K : gk_H → Prop} (hk : K (hv_copy h 40 1)) : gk_cv E (d + 2) jwo_copy [.ref 40, .ref 1] h K := by
  refine gk_cv_mk (x_wo_copy_40_1 ?_)
  unfold w_wo_copy_40_1
  rintro _ rfl _ rfl _ rfl _ rfl _ rfl _ rfl _ rfl _ rfl
  refine ⟨⟨Nat.le_add_left 1 _, by decide, by decide, by decide, by decide, by decide⟩, ?_⟩
  rintro _ rfl
  refine ⟨⟨Nat.le_add_left 1 _, by decide, by decide, by decide, by decide, by decide⟩, ?_⟩
  rintro _ rfl
  refine ⟨⟨Nat.le_add_left 1 _, by decide, by decide, by decide, by decide, by decide⟩, ?_⟩
  rintro _ rfl
  refine ⟨⟨Nat.le_add_left 1 _, by decide, by decide, by decide, by decide, by decide⟩, ?_⟩
  rintro _ rfl
  refine ⟨⟨Nat.le_add_left 1 _, by decide, by decide, by decide, by decide, by decide⟩, ?_⟩
  rintro _ rfl
  exact hk
theorem s_wo_copy_46_1 {E : gk_E} {d : Nat} {h : gk_H} {K : gk_H → Prop} (hk : K (hv_copy h 46 1)) : gk_cv E (d + 2) jwo_copy [.ref 46, .ref 1] h K := by
  refine gk_cv_mk (x_wo_copy_46_1 ?_)
  unfold w_wo_copy_46_1
  rintro _ rfl _ rfl _ rfl _ rfl _ rfl _ rfl _ rfl _ rfl
  refine ⟨⟨Nat.le_add_left 1 _, by decide, by decide, by decide, by decide, by decide⟩, ?_⟩
  rintro _ rfl
  refine ⟨⟨Nat.le_add_left 1 _, by decide, by decide, by decide, by decide, by decide⟩, ?_⟩
  rintro _ rfl
  refine ⟨⟨Nat.le_add_left 1 _, by decide, by decide, by decide, by decide, by decide⟩, ?_⟩
  rintro _ rfl
  refine ⟨⟨Nat.le_add_left 1 _, by decide, by decide, by decide, by decide, by decide⟩, ?_⟩
  rintro _ rfl
  refine ⟨⟨Nat.le_add_left 1 _, by decide, by decide, by decide, by decide, by decide⟩, ?_⟩
  rintro _ rfl
  exact hk
theorem s_wo_copy_52_1 {E : gk_E} {d : Nat} {h : gk_H} {K : gk_H → Prop} (hk : K (hv_copy h 52 1)) : gk_cv E (d + 2) jwo_copy [.ref 52, .ref 1] h K := by
  refine gk_cv_mk (x_wo_copy_52_1 ?_)
  unfold w_wo_copy_52_1
  rintro _ rfl _ rfl _ rfl _ rfl _ rfl _ rfl _ rfl _ rfl
  refine ⟨⟨Nat.le_add_left 1 _, by decide, by decide, by decide, by decide, by decide⟩, ?_⟩
  rintro _ rfl
  refine ⟨⟨Nat.le_add_left 1 _, by decide, by decide, by decide, by decide, by decide⟩, ?_⟩
  rintro _ rfl
  refine ⟨⟨Nat.le_add_left 1 _, by decide, by decide, by decide, by decide, by decide⟩, ?_⟩
  rintro _ rfl
  refine ⟨⟨Nat.le_add_left 1 _, by decide, by decide, by decide, by decide, by decide⟩, ?_⟩
  rintro _ rfl
  refine ⟨⟨Nat.le_add_left 1 _, by decide, by decide, by decide, by decide, by decide⟩, ?_⟩
  rintro _ rfl
  exact hk
theorem s_wo_copy_81_1 {E : gk_E} {d : Nat} {h : gk_H} {K : gk_H → Prop} (hk : K (hv_copy h 81 1)) : gk_cv E (d + 2) jwo_copy [.ref 81, .ref 1] h K := by
  refine gk_cv_mk (x_wo_copy_81_1 ?_)
  unfold w_wo_copy_81_1
  rintro _ rfl _ rfl _ rfl _ rfl _ rfl _ rfl _ rfl _ rfl
  refine ⟨⟨Nat.le_add_left 1 _, by decide, by decide, by decide, by decide, by decide⟩, ?_⟩
  rintro _ rfl
  refine ⟨⟨Nat.le_add_left 1 _, by decide, by decide, by decide, by decide, by decide⟩, ?_⟩
  rintro _ rfl
  refine ⟨⟨Nat.le_add_left 1 _, by decide, by decide, by decide, by decide, by decide⟩, ?_⟩
  rintro _ rfl
  refine ⟨⟨Nat.le_add_left 1 _, by decide, by decide, by decide, by decide, by decide⟩, ?_⟩
  rintro _ rfl
  refine ⟨⟨Nat.le_add_left 1 _, by decide, by decide, by decide, by decide, by decide⟩, ?_⟩
  rintro _ rfl
  exact hk
theorem s_wo_copy_93_1 {E : gk_E} {d : Nat} {h : gk_H} {K : gk_H → Prop} (hk : K (hv_copy h 93 1)) : gk_cv E (d + 2) jwo_copy [.ref 93, .ref 1] h K := by
  refine gk_cv_mk (x_wo_copy_93_1 ?_)
  unfold w_wo_copy_93_1
  rintro _ rfl _ rfl _ rfl _ rfl _ rfl _ rfl _ rfl _ rfl
  refine ⟨⟨Nat.le_add_left 1 _, by decide, by decide, by decide, by decide, by decide⟩, ?_⟩
  rintro _ rfl
  refine ⟨⟨Nat.le_add_left 1 _, by decide, by decide, by decide, by decide, by decide⟩, ?_⟩
  rintro _ rfl
  refine ⟨⟨Nat.le_add_left 1 _, by decide, by decide, by decide, by decide, by decide⟩, ?_⟩
  rintro _ rfl
  refine ⟨⟨Nat.le_add_left 1 _, by decide, by decide, by decide, by decide, by decide⟩, ?_⟩
  rintro _ rfl
  refine ⟨⟨Nat.le_add_left 1 _, by decide, by decide, by decide, by decide, by decide⟩, ?_⟩
  rintro _ rfl
  exact hk
