/-! letters and digits, on both sides -/
def isLt (c : Nat) : Bool := (decide (97 ≤ c) && decide (c ≤ 122)) || (decide (65 ≤ c) && decide (c ≤ 90))
def isDg (c : Nat) : Bool := decide (48 ≤ c) && decide (c ≤ 57)
section CHR
variable {E : gk_E} {d : Nat} {h : gk_H} {K : Int32 → gk_H → Prop}
theorem s_ta_isLetter {i c : Nat} (hi : i < 400) (hc : c < 256) (e : h.2.1 59 i = nI c) (hk : K (nb_b (isLt c)) h) : gk_ci E (d + 1) jta_isLetter [.ref 58, .int (nI i)] h K := by
  have vp : vp_in (nI i) 400 := vp_in_nI hi (by decide)
  refine gk_ci_mk (x_ta_isLetter ⟨vp, ?_⟩)
  rw [nI_clamp (by omega), e]
  have t : ∀ b, isLt c = b → K (nb_b b) h := fun b z => by rw [← z]; exact hk
  refine pk_lt c 97 (fun q => ⟨vp, pk_lt c 65 (fun q2 => ⟨Or.inl rfl, t false ?_⟩) (fun q2 => ⟨vp, pk_lt 90 c (fun q3 => ⟨Or.inl rfl, t false ?_⟩) (fun q3 => ⟨Or.inr rfl, t true ?_⟩)⟩)⟩) (fun q => ⟨vp, pk_le c 122 (fun q2 => ⟨Or.inr rfl, t true ?_⟩) (fun q2 => ⟨vp, pk_lt c 65 (fun q3 => by omega) (fun q3 => ⟨vp, pk_lt 90 c (fun q4 => ⟨Or.inl rfl, t false ?_⟩) (fun q4 => by omega)⟩)⟩)⟩)
  · unfold isLt; simp; omega
  · unfold isLt; simp; omega
  · unfold isLt; simp; omega
  · unfold isLt; simp; omega
  · unfold isLt; simp; omega
theorem s_ta_isDigit {i c : Nat} (hi : i < 400) (hc : c < 256) (e : h.2.1 59 i = nI c) (hk : K (nb_b (isDg c)) h) : gk_ci E (d + 1) jta_isDigit [.ref 58, .int (nI i)] h K := by
  have vp : vp_in (nI i) 400 := vp_in_nI hi (by decide)
  refine gk_ci_mk (x_ta_isDigit ⟨vp, ?_⟩)
  rw [nI_clamp (by omega), e]
  have t : ∀ b, isDg c = b → K (nb_b b) h := fun b z => by rw [← z]; exact hk
  refine pk_lt c 48 (fun q => ⟨Or.inl rfl, t false ?_⟩) (fun q => ⟨vp, pk_lt 57 c (fun q2 => ⟨Or.inl rfl, t false ?_⟩) (fun q2 => ⟨Or.inr rfl, t true ?_⟩)⟩)
  · unfold isDg; simp; omega
  · unfold isDg; simp; omega
  · unfold isDg; simp; omega
theorem s_mo_isLetter {c : Nat} (hc : c < 256) (hk : K (nb_b (isLt c)) h) : gk_ci E (d + 2) jmo_isLetter [.ref 112, .int (nI c)] h K := by
  have le : ∀ a b : Nat, a < 1000 → b < 1000 → ((nI a ≤ nI b) ↔ a ≤ b) := fun a b h1 h2 => nI_leI (by omega) (by omega)
  have t : ∀ b, isLt c = b → K (nb_b b) h := fun b z => by rw [← z]; exact hk
  by_cases q1 : 97 ≤ c ∧ c ≤ 122
  · exact gk_ci_mk (x_mo_isLetter (s_in1 ⟨(le 97 c (by decide) (by omega)).mpr q1.1, (le c 122 (by omega) (by decide)).mpr q1.2⟩ (zF (by decide) ⟨Or.inr rfl, t true (by unfold isLt; simp; omega)⟩)))
  · refine gk_ci_mk (x_mo_isLetter (s_in0 (fun z => q1 ⟨(le 97 c (by decide) (by omega)).mp z.1, (le c 122 (by omega) (by decide)).mp z.2⟩) (zT rfl ?_)))
    by_cases q2 : 65 ≤ c ∧ c ≤ 90
    · exact s_in1 ⟨(le 65 c (by decide) (by omega)).mpr q2.1, (le c 90 (by omega) (by decide)).mpr q2.2⟩ (yF (by decide) ⟨Or.inr rfl, t true (by unfold isLt; simp; omega)⟩)
    · exact s_in0 (fun z => q2 ⟨(le 65 c (by decide) (by omega)).mp z.1, (le c 90 (by omega) (by decide)).mp z.2⟩) (yT rfl ⟨Or.inl rfl, t false (by unfold isLt; simp; omega)⟩)
theorem s_mo_isDigit {c : Nat} (hc : c < 256) (hk : K (nb_b (isDg c)) h) : gk_ci E (d + 2) jmo_isDigit [.ref 112, .int (nI c)] h K := by
  have le : ∀ a b : Nat, a < 1000 → b < 1000 → ((nI a ≤ nI b) ↔ a ≤ b) := fun a b h1 h2 => nI_leI (by omega) (by omega)
  have t : ∀ b, isDg c = b → K (nb_b b) h := fun b z => by rw [← z]; exact hk
  by_cases q1 : 48 ≤ c ∧ c ≤ 57
  · exact gk_ci_mk (x_mo_isDigit (s_in1 ⟨(le 48 c (by decide) (by omega)).mpr q1.1, (le c 57 (by omega) (by decide)).mpr q1.2⟩ ⟨Or.inr rfl, t true (by unfold isDg; simp; omega)⟩))
  · exact gk_ci_mk (x_mo_isDigit (s_in0 (fun z => q1 ⟨(le 48 c (by decide) (by omega)).mp z.1, (le c 57 (by omega) (by decide)).mp z.2⟩) ⟨Or.inl rfl, t false (by unfold isDg; simp; omega)⟩))
/-- behind the tape's end stands NONE, which is no letter and no digit -/
theorem s_mo_isLetterN (hk : K 0 h) : gk_ci E (d + 2) jmo_isLetter [.ref 112, .int (-1)] h K := gk_ci_mk (x_mo_isLetter (s_in0 (by decide) (zT rfl (s_in0 (by decide) (yT rfl ⟨Or.inl rfl, hk⟩)))))
theorem s_mo_isDigitN (hk : K 0 h) : gk_ci E (d + 2) jmo_isDigit [.ref 112, .int (-1)] h K := gk_ci_mk (x_mo_isDigit (s_in0 (by decide) ⟨Or.inl rfl, hk⟩))
end CHR
