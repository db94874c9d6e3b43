/-! going back -/
theorem rg_n : ∀ f : Nat, f < 6 → ∀ m : Nat, m < 6 → (nI f + nI m) - (nI f + nI m) / (6 : Int32) * (6 : Int32) = nI ((f + m) % 6) := by decide
theorem rg_1 : ∀ m : Nat, m < 6 → nI (m + 1) - (1 : Int32) = nI m ∧ ¬ nI (m + 1) = 0 ∧ (nI m).toNatClampNeg = m ∧ ¬ (nI m < 0 ∨ 6 ≤ (nI m).toNatClampNeg) := by decide
set_option maxHeartbeats 1000000 in
theorem s_ps_goBack {E : gk_E} {d : Nat} {h : gk_H} {K : Int32 → gk_H → Prop} {f n : Nat} (hf : f < 6) (hn : n ≤ 6) (e1 : h.1 20 1 = nI f) (e2 : h.1 20 2 = nI n) (k0 : n = 0 → K 0 h) (k1 : ∀ m, n = m + 1 → K 1 (hv_copy (gk_hf h 20 2 (nI m)) 1 (22 + 6 * ((f + m) % 6)))) : gk_ci E (d + 3) jps_goBack [.ref 20, .ref 1] h K := by
  refine gk_ci_mk (x_ps_goBack ?_)
  unfold w_ps_goBack
  refine ⟨fun c => ?_, fun c => ?_⟩
  · cases n with
    | zero => exact absurd e2 c
    | succ m =>
      obtain ⟨b1, b2, -, -⟩ := rg_1 m (by omega)
      have eh : gk_hf h 20 2 (h.1 20 2 - 1) = gk_hf h 20 2 (nI m) := by rw [e2, b1]
      rw [eh]
      have a1 : (gk_hf h 20 2 (nI m)).1 20 1 = nI f := by rw [hf_f]; simpa using e1
      have a2 : (gk_hf h 20 2 (nI m)).1 20 2 = nI m := by rw [hf_f]; simp
      rw [a1, a2, rg_n f hf m (by omega)]
      have k2 := k1 m rfl
      have hr : (f + m) % 6 < 6 := Nat.mod_lt _ (by decide)
      generalize (f + m) % 6 = r at k2 hr
      obtain ⟨-, -, b3, b4⟩ := rg_1 r hr
      rw [b3]
      refine ⟨by decide, b4, fun q => ?_, fun q => ?_, fun q => ?_, fun q => ?_, fun q => ?_, fun q => ?_, trivial⟩
      · rw [q] at k2; exact s_wo_copy_1_22 ⟨Or.inr rfl, k2⟩
      · rw [q] at k2; exact s_wo_copy_1_28 ⟨Or.inr rfl, k2⟩
      · rw [q] at k2; exact s_wo_copy_1_34 ⟨Or.inr rfl, k2⟩
      · rw [q] at k2; exact s_wo_copy_1_40 ⟨Or.inr rfl, k2⟩
      · rw [q] at k2; exact s_wo_copy_1_46 ⟨Or.inr rfl, k2⟩
      · rw [q] at k2; exact s_wo_copy_1_52 ⟨Or.inr rfl, k2⟩
  · cases n with
    | zero => exact ⟨Or.inl rfl, k0 rfl⟩
    | succ m => exact absurd (e2.symm.trans c) (rg_1 m (by omega)).2.1
theorem s_dp_undo {E : gk_E} {d : Nat} {h : gk_H} {K : Int32 → gk_H → Prop} {f n : Nat} (hf : f < 6) (hn : n ≤ 6) (e1 : h.1 20 1 = nI f) (e2 : h.1 20 2 = nI n) (k0 : n = 0 → K 0 h) (k1 : ∀ m, n = m + 1 → K 1 (hv_copy (gk_hf h 20 2 (nI m)) 1 (22 + 6 * ((f + m) % 6)))) : gk_ci E (d + 4) jdp_undo [.ref 0] h K := by
  refine gk_ci_mk (x_dp_undo ?_)
  unfold w_dp_undo
  exact s_ps_goBack hf hn e1 e2 (fun e => ⟨Or.inl rfl, k0 e⟩) (fun m e => ⟨Or.inr rfl, k1 m e⟩)
