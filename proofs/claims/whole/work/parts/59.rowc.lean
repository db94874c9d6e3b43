/-! row, the class -/
def wrow (g : Int64) (a1 a2 : Int32) : Int64 := (g &&& (((255 : Int64) <<< (((8 : Int32) * a1).toInt64 &&& 63)) ^^^ (-1 : Int64))) ||| ((a2.toInt64) <<< (((8 : Int32) * a1).toInt64 &&& 63))
theorem s_dp_row {E : gk_E} {d n : Nat} {h : gk_H} {K : Int32 → gk_H → Prop} {a0 a1 a2 : Int32} (hn : n ≤ 10) (e : h.1 1 0 = nI n) (k0 : (¬ ((∃ p, p < n ∧ a0 = nI p) ∧ (0 ≤ a1 ∧ a1 ≤ 7) ∧ (0 ≤ a2 ∧ a2 ≤ 255))) → K 0 h)
    (k1 : ∀ p r, p < n → r < 8 → a0 = nI p → a1 = nI r → (0 ≤ a1 ∧ a1 ≤ 7) → (0 ≤ a2 ∧ a2 ≤ 255) → K 1 (gk_hl (gk_hf h 20 2 0) 2 p (wrow (h.2.2 2 p) (nI r) a2))) : gk_ci E (d + 2) jdp_row [.ref 0, .int a0, .int a1, .int a2] h K := by
  refine gk_ci_mk (x_dp_row ?_)
  unfold w_dp_row
  refine s_wo_has_1 hn e (fun c => ⟨fun _ => ⟨Or.inl rfl, k0 (fun q => c q.1)⟩, fun c2 => absurd rfl c2⟩) (fun p hp ep => ⟨fun c2 => absurd c2 (by decide), fun _ => ?_⟩)
  refine s_dp_isWithin ⟨fun c => ⟨Or.inl rfl, k0 (fun q => in_b.1 c q.2.1)⟩, fun c => ?_⟩
  have i1 := in_b.2 c
  refine s_dp_isWithin ⟨fun c2 => ?_, fun c2 => ⟨Or.inl rfl, k0 (fun q => in_b.1 c2 q.2.2)⟩⟩
  have i2 := in_b.2 c2
  obtain ⟨r, hr, er⟩ := nI_of2 (M := 7) (n := 7) (by decide) (Int32.not_lt.mpr i1.1) i1.2
  have k2 := k1 p r hp (by omega) ep er i1 i2
  rw [ep, er, nI_clamp (n := p) (by omega)]
  refine s_ps_forget ⟨nI_in (by omega) (by decide), gk_cl_mk (x_gr_withRow ?_)⟩
  exact ⟨nI_in (by omega) (by decide), Or.inr rfl, k2⟩
