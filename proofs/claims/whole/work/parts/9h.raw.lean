/-! raw, signs: the reference -/
section RAW
variable {E : gk_E} {d : Nat} {h : gk_H} {K : Int32 → gk_H → Prop}
theorem s_mo_raw {i n c : Nat} (hn : n ≤ 400) (en : h.1 112 10 = nI n) (hi : i < n) (e : h.2.1 118 i = nI c) (hk : K (nI c) h) : gk_ci E (d + 1) jmo_raw [.ref 112, .int (nI i)] h K := by
  refine gk_ci_mk (x_mo_raw (pk_le n i (fun q => by omega) (fun _ => ⟨vp_in_nI (by omega) (by decide), ?_⟩) (hx := en)))
  rw [nI_clamp (by omega), e]
  exact hk
theorem s_mo_rawN {i n : Nat} (hn : n ≤ 400) (en : h.1 112 10 = nI n) (hi : n ≤ i) (h4 : i < 1000) (hk : K (-1) h) : gk_ci E (d + 1) jmo_raw [.ref 112, .int (nI i)] h K := gk_ci_mk (x_mo_raw (pk_le n i (fun _ => hk) (fun q => by omega) (hx := en)))
theorem s_mo_isMarkSign {c : Nat} (hc : c < 256) (hk : K (nb_b (isSg c)) h) : gk_ci E (d + 1) jmo_isMarkSign [.ref 112, .int (nI c)] h K := by
  have t : ∀ b, isSg c = b → K (nb_b b) h := fun b z => by rw [← z]; exact hk
  refine gk_ci_mk (x_mo_isMarkSign (pk_eq c 59 (fun q => ⟨Or.inr rfl, t true ?_⟩) (fun q1 => pk_eq c 43 (fun q => ⟨Or.inr rfl, t true ?_⟩) (fun q2 => pk_eq c 45 (fun q => ⟨Or.inr rfl, t true ?_⟩) (fun q3 => pk_eq c 42 (fun q => ⟨Or.inr rfl, t true ?_⟩) (fun q4 => pk_eq c 47 (fun q => ⟨Or.inr rfl, t true ?_⟩) (fun q5 => pk_eq c 40 (fun q => ⟨Or.inr rfl, t true ?_⟩) (fun q6 => pk_eq c 41 (fun q => ⟨Or.inr rfl, t true ?_⟩) (fun q7 => pk_eq c 60 (fun q => ⟨Or.inr rfl, t true ?_⟩) (fun q8 => pk_eq c 61 (fun q => ⟨Or.inr rfl, t true ?_⟩) (fun q9 => ?_)))))))))))
  · rw [q]; decide
  · rw [q]; decide
  · rw [q]; decide
  · rw [q]; decide
  · rw [q]; decide
  · rw [q]; decide
  · rw [q]; decide
  · rw [q]; decide
  · rw [q]; decide
  · have sw := pk_eq (x := nI c) (y := 62) (A := (((1 : Int32) = 0 ∨ (1 : Int32) = 1) ∧ K 1 h)) (B := (((0 : Int32) = 0 ∨ (0 : Int32) = 1) ∧ K 0 h)) c 62 (fun q => ⟨Or.inr rfl, t true (by rw [q]; decide)⟩) (fun q => ⟨Or.inl rfl, t false (by unfold isSg; simp [q1, q2, q3, q4, q5, q6, q7, q8, q9, q])⟩)
    exact ⟨sw.2, sw.1⟩
end RAW
