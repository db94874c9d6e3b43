/-! the reference's ground: rows of bits -/
theorem bsel {b : Bool} {X Y : Prop} (h0 : b = false → X) (h1 : b = true → Y) : (nb_b b = 0 → X) ∧ (¬ nb_b b = 0 → Y) := by
  cases b with
  | false => exact ⟨fun _ => h0 rfl, fun q => absurd rfl q⟩
  | true => exact ⟨fun q => absurd q (by decide), fun _ => h1 rfl⟩
theorem bsel2 {b : Bool} {X Y : Prop} (h0 : b = false → X) (h1 : b = true → Y) : (¬ nb_b b = 0 → Y) ∧ (nb_b b = 0 → X) := ⟨(bsel h0 h1).2, (bsel h0 h1).1⟩
theorem lr_bit {g : Int64} {r c : Nat} : nb_bit (lr g r) c = (decide (c < 8) && nb_bitL g (8 * r + c)) := by
  rw [nb_bit_toNat, lr, pk_tn (Nat.lt_trans (Nat.mod_lt _ (by decide)) (by decide))]
  exact lr_tb
theorem lr_ones {g : Int64} {r : Nat} : nb_ones (lr g r) = sm (fun i => (nb_bitL g (8 * r + i)).toNat) 8 := by
  unfold nb_ones
  rw [show (32 : Nat) = 8 + 24 from rfl, nb_cnt_add, ← sm_cnt]
  have e1 : nb_cnt (nb_bit (lr g r)) 8 = nb_cnt (fun i => nb_bitL g (8 * r + i)) 8 := nb_cnt_congr fun i hi => by rw [lr_bit, decide_eq_true hi, Bool.true_and]
  have e2 : nb_cnt (fun i => nb_bit (lr g r) (8 + i)) 24 = nb_cnt (fun _ => false) 24 := nb_cnt_congr fun i hi => by rw [lr_bit, decide_eq_false (by omega), Bool.false_and]
  rw [e1, e2]
  have e3 : nb_cnt (fun _ => false) 24 = 0 := by decide
  rw [e3, Nat.add_zero]
theorem onesL_8 (g : Int64) : nb_onesL g = sm (fun r => sm (fun i => (nb_bitL g (8 * r + i)).toNat) 8) 8 := by
  unfold nb_onesL
  rw [sm_cnt]
  exact sm_8 (fun i => (nb_bitL g i).toNat) 8
/-- place p's ground in the reference is g -/
def MG (h : gk_H) (p : Nat) (g : Int64) : Prop := ∀ r, r < 8 → h.2.1 113 (51 + 8 * p + r) = lr g r
section MG1
variable {E : gk_E} {d : Nat} {h : gk_H} {K : Int32 → gk_H → Prop} {p : Nat} {g : Int64}
theorem s_mo_dryOf (hp : p < 10) (hg : MG h p g) (hk : K (nI (nb_onesL g)) h) : gk_ci E (d + 2) jmo_dryOf [.ref 112, .int (nI p)] h K := by
  refine gk_ci_mk (x_mo_dryOf ?_)
  rintro _ rfl _ rfl
  refine lp_up (N := 8) (fun j (s : Int32) => g_mo_dryOf_4 E (d + 1) (gk_qi K) (nI p) s (nI j) h) (fun j s => s = nI (sm (fun r => sm (fun i => (nb_bitL g (8 * r + i)).toNat) 8) j)) ?_ ?_ 0 0 (by decide) rfl
  · rintro j s hj rfl ih
    refine x_mo_dryOf_4 (pk_le 8 j (fun q => by omega) (fun _ => ?_))
    refine s_mo_rowAt ⟨vp_in_nI (by omega) (by omega), ?_⟩
    rw [nI_clamp (by omega), hg j hj]
    refine s_mo_onesOf ?_
    rintro _ rfl _ rfl
    rw [nI_1, lr_ones, nI_add]
    exact ih _ rfl
  · rintro s rfl
    refine x_mo_dryOf_4 (pk_le 8 8 (fun _ => ?_) (fun q => by omega))
    show K _ h
    rw [← onesL_8]
    exact hk
theorem s_mo_dryCell {c : Nat} (hp : p < 10) (hc : c < 64) (hg : MG h p g) (hk : K (nb_b (nb_bitL g c)) h) : gk_ci E (d + 2) jmo_isDryCell [.ref 112, .int (nI p), .int (nI c)] h K := by
  refine s_mo_isDryCell hp hc ?_
  rw [hg (c / 8) (by omega), lr_bit, decide_eq_true (by omega), Bool.true_and, show 8 * (c / 8) + c % 8 = c by omega]
  exact hk
theorem s_mo_isDry {r c : Int32} {b : Bool} (hp : p < 10) (hg : MG h p g) (hb : (∃ i j : Nat, i < 8 ∧ j < 8 ∧ r = nI i ∧ c = nI j ∧ b = nb_bitL g (8 * i + j)) ∨ ((¬ (0 ≤ r ∧ r ≤ 7) ∨ ¬ (0 ≤ c ∧ c ≤ 7)) ∧ b = false)) (hk : K (nb_b b) h) : gk_ci E (d + 2) jmo_isDry [.ref 112, .int (nI p), .int r, .int c] h K := by
  refine gk_ci_mk (x_mo_isDry ?_)
  unfold w_mo_isDry
  rcases hb with ⟨i, j, hi, hj, rfl, rfl, rfl⟩ | ⟨hn, rfl⟩
  · have e1 : (decide ((0 : Int32) ≤ nI i) && decide (nI i ≤ 7)) = true := by
      rw [decide_eq_true (nI_pos' (by omega)), decide_eq_true (p := nI i ≤ 7) (nI_le (b := 7) (by omega) (by decide))]; rfl
    have e2 : (decide ((0 : Int32) ≤ nI j) && decide (nI j ≤ 7)) = true := by
      rw [decide_eq_true (nI_pos' (by omega)), decide_eq_true (p := nI j ≤ 7) (nI_le (b := 7) (by omega) (by decide))]; rfl
    refine s_mo_isIn ?_
    rw [e1]
    refine bsel (fun q => by cases q) (fun _ => s_mo_isIn ?_)
    rw [e2]
    refine bsel (fun q => by cases q) (fun _ => s_mo_rowAt ⟨vp_in_nI (by omega) (by omega), ?_⟩)
    rw [nI_clamp (by omega), hg i hi]
    refine s_mo_has (by omega) ?_
    rw [lr_bit, decide_eq_true hj, Bool.true_and]
    exact bsel (fun q => ⟨Or.inl rfl, by rw [q] at hk; exact hk⟩) (fun q => ⟨Or.inr rfl, by rw [q] at hk; exact hk⟩)
  · refine s_mo_isIn (bsel (fun _ => ⟨Or.inl rfl, hk⟩) (fun q => s_mo_isIn (bsel (fun _ => ⟨Or.inl rfl, hk⟩) (fun q2 => ?_))))
    rw [Bool.and_eq_true, decide_eq_true_eq, decide_eq_true_eq] at q q2
    rcases hn with z | z
    · exact absurd q z
    · exact absurd q2 z
theorem wet_sub (f : Nat → Bool) (c : Nat) : wet f c = 4 - (decide (8 ≤ c) && f (c - 8)).toNat - (f (c + 8)).toNat - (decide (c % 8 ≠ 0) && f (c - 1)).toNat - (decide (c % 8 ≠ 7) && f (c + 1)).toNat := by
  unfold wet
  generalize (decide (8 ≤ c) && f (c - 8)) = b1
  generalize f (c + 8) = b2
  generalize (decide (c % 8 ≠ 0) && f (c - 1)) = b3
  generalize (decide (c % 8 ≠ 7) && f (c + 1)) = b4
  cases b1 <;> cases b2 <;> cases b3 <;> cases b4 <;> rfl
theorem s_mo_wetBeside {c : Nat} (hp : p < 10) (hc : c < 64) (hg : MG h p g) (hk : K (nI (wet (nb_bitL g) c)) h) : gk_ci E (d + 3) jmo_wetBeside [.ref 112, .int (nI p), .int (nI c)] h K := by
  refine gk_ci_mk (x_mo_wetBeside ?_)
  have e1 : nI c / 8 = nI (c / 8) := pk_div (d := 8) (by omega) (by omega) (by omega)
  have e2 : nI c - nI c / 8 * 8 = nI (c % 8) := pk_rem (d := 8) (by omega) (by omega) (by omega)
  unfold w_mo_wetBeside
  rw [e2, e1]
  refine ⟨by decide, ?_⟩
  rintro _ rfl
  refine ⟨by decide, ?_⟩
  rintro _ rfl
  have n1 : (0 : Int32) - 1 = -1 := by decide
  have u : (∃ i j : Nat, i < 8 ∧ j < 8 ∧ nI (c / 8) - 1 = nI i ∧ nI (c % 8) = nI j ∧ (decide (8 ≤ c) && nb_bitL g (c - 8)) = nb_bitL g (8 * i + j)) ∨ ((¬ (0 ≤ nI (c / 8) - 1 ∧ nI (c / 8) - 1 ≤ 7) ∨ ¬ (0 ≤ nI (c % 8) ∧ nI (c % 8) ≤ 7)) ∧ (decide (8 ≤ c) && nb_bitL g (c - 8)) = false) := by
    by_cases q : 8 ≤ c
    · refine Or.inl ⟨c / 8 - 1, c % 8, by omega, by omega, pk_sub (b := 1) (by omega), rfl, ?_⟩
      rw [decide_eq_true q, Bool.true_and, show c - 8 = 8 * (c / 8 - 1) + c % 8 by omega]
    · refine Or.inr ⟨Or.inl ?_, by rw [decide_eq_false q]; rfl⟩
      rw [show c / 8 = 0 by omega]; decide
  have v : (∃ i j : Nat, i < 8 ∧ j < 8 ∧ nI (c / 8) + 1 = nI i ∧ nI (c % 8) = nI j ∧ nb_bitL g (c + 8) = nb_bitL g (8 * i + j)) ∨ ((¬ (0 ≤ nI (c / 8) + 1 ∧ nI (c / 8) + 1 ≤ 7) ∨ ¬ (0 ≤ nI (c % 8) ∧ nI (c % 8) ≤ 7)) ∧ nb_bitL g (c + 8) = false) := by
    by_cases q : c < 56
    · refine Or.inl ⟨c / 8 + 1, c % 8, by omega, by omega, nI_1 _, rfl, ?_⟩
      rw [show c + 8 = 8 * (c / 8 + 1) + c % 8 by omega]
    · refine Or.inr ⟨Or.inl ?_, bL_ge (by omega)⟩
      rw [show c / 8 = 7 by omega]; decide
  have w : (∃ i j : Nat, i < 8 ∧ j < 8 ∧ nI (c / 8) = nI i ∧ nI (c % 8) - 1 = nI j ∧ (decide (c % 8 ≠ 0) && nb_bitL g (c - 1)) = nb_bitL g (8 * i + j)) ∨ ((¬ (0 ≤ nI (c / 8) ∧ nI (c / 8) ≤ 7) ∨ ¬ (0 ≤ nI (c % 8) - 1 ∧ nI (c % 8) - 1 ≤ 7)) ∧ (decide (c % 8 ≠ 0) && nb_bitL g (c - 1)) = false) := by
    by_cases q : c % 8 ≠ 0
    · refine Or.inl ⟨c / 8, c % 8 - 1, by omega, by omega, rfl, pk_sub (b := 1) (by omega), ?_⟩
      rw [decide_eq_true q, Bool.true_and, show c - 1 = 8 * (c / 8) + (c % 8 - 1) by omega]
    · refine Or.inr ⟨Or.inr ?_, by rw [decide_eq_false q]; rfl⟩
      rw [show c % 8 = 0 by omega]; decide
  have z : (∃ i j : Nat, i < 8 ∧ j < 8 ∧ nI (c / 8) = nI i ∧ nI (c % 8) + 1 = nI j ∧ (decide (c % 8 ≠ 7) && nb_bitL g (c + 1)) = nb_bitL g (8 * i + j)) ∨ ((¬ (0 ≤ nI (c / 8) ∧ nI (c / 8) ≤ 7) ∨ ¬ (0 ≤ nI (c % 8) + 1 ∧ nI (c % 8) + 1 ≤ 7)) ∧ (decide (c % 8 ≠ 7) && nb_bitL g (c + 1)) = false) := by
    by_cases q : c % 8 ≠ 7
    · refine Or.inl ⟨c / 8, c % 8 + 1, by omega, by omega, rfl, nI_1 _, ?_⟩
      rw [decide_eq_true q, Bool.true_and, show c + 1 = 8 * (c / 8) + (c % 8 + 1) by omega]
    · refine Or.inr ⟨Or.inr ?_, by rw [decide_eq_false q]; rfl⟩
      rw [show c % 8 = 7 by omega]; decide
  rw [wet_sub] at hk
  generalize (decide (8 ≤ c) && nb_bitL g (c - 8)) = b1 at hk u
  generalize nb_bitL g (c + 8) = b2 at hk v
  generalize (decide (c % 8 ≠ 0) && nb_bitL g (c - 1)) = b3 at hk w
  generalize (decide (c % 8 ≠ 7) && nb_bitL g (c + 1)) = b4 at hk z
  have fin : ∀ x : Int32, x = nI (4 - b1.toNat - b2.toNat - b3.toNat - b4.toNat) → K x h := fun x q => by rw [q]; exact hk
  refine s_mo_isDry hp hg u (bsel (fun c1 => s_mo_isDry hp hg v (bsel (fun c2 => s_mo_isDry hp hg w (bsel (fun c3 => s_mo_isDry hp hg z (bsel (fun c4 => ?_) (fun c4 => ?_))) (fun c3 => s_mo_isDry hp hg z (bsel (fun c4 => ?_) (fun c4 => ?_))))) (fun c2 => s_mo_isDry hp hg w (bsel (fun c3 => s_mo_isDry hp hg z (bsel (fun c4 => ?_) (fun c4 => ?_))) (fun c3 => s_mo_isDry hp hg z (bsel (fun c4 => ?_) (fun c4 => ?_))))))) (fun c1 => s_mo_isDry hp hg v (bsel (fun c2 => s_mo_isDry hp hg w (bsel (fun c3 => s_mo_isDry hp hg z (bsel (fun c4 => ?_) (fun c4 => ?_))) (fun c3 => s_mo_isDry hp hg z (bsel (fun c4 => ?_) (fun c4 => ?_))))) (fun c2 => s_mo_isDry hp hg w (bsel (fun c3 => s_mo_isDry hp hg z (bsel (fun c4 => ?_) (fun c4 => ?_))) (fun c3 => s_mo_isDry hp hg z (bsel (fun c4 => ?_) (fun c4 => ?_))))))))
  all_goals exact fin _ (by rw [c1, c2, c3, c4]; decide)
theorem s_mo_edgesOf (hp : p < 10) (hg : MG h p g) (hk : K (nI (edg (nb_bitL g))) h) : gk_ci E (d + 4) jmo_edgesOf [.ref 112, .int (nI p)] h K := by
  refine gk_ci_mk (x_mo_edgesOf ?_)
  rintro _ rfl _ rfl
  refine lp_up (N := 64) (fun j (s : Int32) => g_mo_edgesOf_4 E (d + 3) (gk_qi K) (nI p) s (nI j) h) (fun j s => s = nI (sm (fun c => if nb_bitL g c then wet (nb_bitL g) c else 0) j)) ?_ ?_ 0 0 (by decide) rfl
  · rintro j s hj rfl ih
    refine x_mo_edgesOf_4 (pk_le 64 j (fun q => by omega) (fun _ => ?_))
    refine s_mo_dryCell hp hj hg (bsel (fun q => ?_) (fun q => s_mo_wetBeside hp hj hg ?_))
    · rintro _ rfl
      rw [nI_1]
      refine ih _ ?_
      rw [sm, q]; rfl
    · rintro _ rfl _ rfl
      rw [nI_1, nI_add]
      refine ih _ ?_
      rw [sm, q]; rfl
  · rintro s rfl
    refine x_mo_edgesOf_4 (pk_le 64 64 (fun _ => ?_) (fun q => by omega))
    exact hk
end MG1
