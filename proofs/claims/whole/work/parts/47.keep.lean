/-! keeping ahead -/
def t_keep (E : gk_E) (d : Nat) (Q : Option Value → gk_H → Prop) (h : gk_H) : Prop := (¬ (6 : Int32) = 0) ∧ (vp_in (((h.1 20 1) + (h.1 20 2)) - ((h.1 20 1) + (h.1 20 2)) / (6 : Int32) * (6 : Int32)) 6 ∧ (((((h.1 20 1) + (h.1 20 2)) - ((h.1 20 1) + (h.1 20 2)) / (6 : Int32) * (6 : Int32)).toNatClampNeg = 0 → (gk_cv E d jwo_copy [.ref 22, .ref 1] h (fun h_1 => ∀ h_2 : gk_H, h_2 = gk_hf h_1 20 2 ((h_1.1 20 2) + (1 : Int32)) → (Q none h_2)))) ∧ ((((h.1 20 1) + (h.1 20 2)) - ((h.1 20 1) + (h.1 20 2)) / (6 : Int32) * (6 : Int32)).toNatClampNeg = 1 → (gk_cv E d jwo_copy [.ref 28, .ref 1] h (fun h_1 => ∀ h_2 : gk_H, h_2 = gk_hf h_1 20 2 ((h_1.1 20 2) + (1 : Int32)) → (Q none h_2)))) ∧ ((((h.1 20 1) + (h.1 20 2)) - ((h.1 20 1) + (h.1 20 2)) / (6 : Int32) * (6 : Int32)).toNatClampNeg = 2 → (gk_cv E d jwo_copy [.ref 34, .ref 1] h (fun h_1 => ∀ h_2 : gk_H, h_2 = gk_hf h_1 20 2 ((h_1.1 20 2) + (1 : Int32)) → (Q none h_2)))) ∧ ((((h.1 20 1) + (h.1 20 2)) - ((h.1 20 1) + (h.1 20 2)) / (6 : Int32) * (6 : Int32)).toNatClampNeg = 3 → (gk_cv E d jwo_copy [.ref 40, .ref 1] h (fun h_1 => ∀ h_2 : gk_H, h_2 = gk_hf h_1 20 2 ((h_1.1 20 2) + (1 : Int32)) → (Q none h_2)))) ∧ ((((h.1 20 1) + (h.1 20 2)) - ((h.1 20 1) + (h.1 20 2)) / (6 : Int32) * (6 : Int32)).toNatClampNeg = 4 → (gk_cv E d jwo_copy [.ref 46, .ref 1] h (fun h_1 => ∀ h_2 : gk_H, h_2 = gk_hf h_1 20 2 ((h_1.1 20 2) + (1 : Int32)) → (Q none h_2)))) ∧ ((((h.1 20 1) + (h.1 20 2)) - ((h.1 20 1) + (h.1 20 2)) / (6 : Int32) * (6 : Int32)).toNatClampNeg = 5 → (gk_cv E d jwo_copy [.ref 52, .ref 1] h (fun h_1 => ∀ h_2 : gk_H, h_2 = gk_hf h_1 20 2 ((h_1.1 20 2) + (1 : Int32)) → (Q none h_2)))) ∧ True))
theorem s_t_keep {E : gk_E} {d : Nat} {Q : Option Value → gk_H → Prop} {h : gk_H} {f m : Nat} (hf : f < 6) (hm : m < 6) (e1 : h.1 20 1 = nI f) (e2 : h.1 20 2 = nI m) (k : Q none (gk_hf (hv_copy h (22 + 6 * ((f + m) % 6)) 1) 20 2 (nI (m + 1)))) : t_keep E (d + 2) Q h := by
  unfold t_keep
  rw [e1, e2, rg_n f hf m hm]
  have hr : (f + m) % 6 < 6 := Nat.mod_lt _ (by decide)
  generalize (f + m) % 6 = r at k hr
  obtain ⟨-, -, b3, b4⟩ := rg_1 r hr
  rw [b3]
  have e3 : (hv_copy h (22 + 6 * r) 1).1 20 2 + 1 = nI (m + 1) := by
    rw [cp_f (by omega), if_neg (fun q => absurd q.1 (by omega)), e2]
    exact nI_add m 1
  have k3 : ∀ h_2 : gk_H, h_2 = gk_hf (hv_copy h (22 + 6 * r) 1) 20 2 ((hv_copy h (22 + 6 * r) 1).1 20 2 + 1) → Q none h_2 := by
    intro h2 q
    rw [q, e3]
    exact k
  refine ⟨by decide, b4, fun q => ?_, fun q => ?_, fun q => ?_, fun q => ?_, fun q => ?_, fun q => ?_, trivial⟩
  · rw [q] at k3; exact s_wo_copy_22_1 k3
  · rw [q] at k3; exact s_wo_copy_28_1 k3
  · rw [q] at k3; exact s_wo_copy_34_1 k3
  · rw [q] at k3; exact s_wo_copy_40_1 k3
  · rw [q] at k3; exact s_wo_copy_46_1 k3
  · rw [q] at k3; exact s_wo_copy_52_1 k3
theorem rg_2 : ∀ m : Nat, m < 6 → ¬ nI m = 6 := by decide
theorem s_ps_keep {E : gk_E} {d : Nat} {h : gk_H} {K : gk_H → Prop} {f n : Nat} (hf : f < 6) (hn : n ≤ 6) (e1 : h.1 20 1 = nI f) (e2 : h.1 20 2 = nI n) (k0 : n < 6 → K (gk_hf (hv_copy h (22 + 6 * ((f + n) % 6)) 1) 20 2 (nI (n + 1)))) (k1 : n = 6 → K (gk_hf (hv_copy (gk_hf (gk_hf h 20 1 (nI ((f + 1) % 6))) 20 2 (nI 5)) (22 + 6 * (((f + 1) % 6 + 5) % 6)) 1) 20 2 (nI 6))) : gk_cv E (d + 3) jps_keep [.ref 20, .ref 1] h K := by
  refine gk_cv_mk (x_ps_keep ?_)
  unfold w_ps_keep
  refine ⟨fun c => ?_, fun c => ?_⟩
  · have hn6 : n < 6 := by
      rcases Nat.lt_or_ge n 6 with q | q
      · exact q
      · exact absurd (by rw [e2, show n = 6 by omega]; rfl) c
    exact s_t_keep (Q := gk_qv K) hf hn6 e1 e2 (k0 hn6)
  · have hn6 : n = 6 := by
      rcases Nat.lt_or_ge n 6 with q | q
      · exact absurd (e2.symm.trans c) (rg_2 n q)
      · omega
    refine ⟨by decide, fun h1 q1 h2 q2 => ?_⟩
    have a0 : h.1 20 1 + 1 - (h.1 20 1 + 1) / 6 * 6 = nI ((f + 1) % 6) := by rw [e1]; exact rg_n f hf 1 (by decide)
    rw [a0] at q1
    have a1 : h1.1 20 2 - 1 = nI 5 := by rw [q1, hf_f, if_neg (by decide), c]; decide
    rw [a1, q1] at q2
    rw [q2]
    exact s_t_keep (Q := gk_qv K) (h := gk_hf (gk_hf h 20 1 (nI ((f + 1) % 6))) 20 2 (nI 5)) (f := (f + 1) % 6) (m := 5) (Nat.mod_lt _ (by decide)) (by decide) (by rw [hf_f, if_neg (by decide), hf_f, if_pos ⟨rfl, rfl⟩]) (by rw [hf_f, if_pos ⟨rfl, rfl⟩]) (k1 hn6)
