/-! counting bits -/
def nb_cnt (g : Nat → Bool) : Nat → Nat
  | 0 => 0
  | n + 1 => nb_cnt g n + (g n).toNat
theorem nb_cnt_congr {f g : Nat → Bool} : ∀ {n : Nat}, (∀ i, i < n → f i = g i) → nb_cnt f n = nb_cnt g n := by
  intro n
  induction n with
  | zero => intro _; rfl
  | succ n ih => intro h; rw [nb_cnt, nb_cnt, ih (fun i hi => h i (by omega)), h n (by omega)]
theorem nb_cnt_le (g : Nat → Bool) : ∀ n, nb_cnt g n ≤ n := by
  intro n
  induction n with
  | zero => exact Nat.le_refl _
  | succ n ih =>
    rw [nb_cnt]
    have : (g n).toNat ≤ 1 := by cases g n <;> decide
    omega
theorem nb_cnt_add (g : Nat → Bool) (m : Nat) : ∀ n, nb_cnt g (m + n) = nb_cnt g m + nb_cnt (fun i => g (m + i)) n := by
  intro n
  induction n with
  | zero => rfl
  | succ n ih => rw [← Nat.add_assoc, nb_cnt, ih, nb_cnt]; omega
theorem nb_cnt_clear {f g : Nat → Bool} {k : Nat} : ∀ {n : Nat}, (∀ i, i < n → f i = (g i && decide (i ≠ k))) → g k = true → nb_cnt g n = nb_cnt f n + (if k < n then 1 else 0) := by
  intro n
  induction n with
  | zero => intro _ _; rfl
  | succ n ih =>
    intro h hk
    have h1 := ih (fun i hi => h i (by omega)) hk
    rw [nb_cnt, nb_cnt, h1, h n (by omega)]
    by_cases e : n = k
    · subst e
      simp [hk]
    · by_cases e2 : k < n
      · simp [e, e2, show k < n + 1 by omega]; omega
      · simp [e, e2, show ¬ k < n + 1 by omega]
/-- n & (n - 1) clears one bit -/
theorem nb_low : ∀ n : Nat, 0 < n → ∃ k, n.testBit k = true ∧ ∀ i, (n &&& (n - 1)).testBit i = (n.testBit i && decide (i ≠ k)) := by
  intro n
  induction n using Nat.strongRecOn with
  | ind n ih =>
    intro hn
    by_cases ho : n % 2 = 1
    · refine ⟨0, by simp [Nat.testBit_zero, ho], fun i => ?_⟩
      cases i with
      | zero =>
        rw [Nat.testBit_and, Nat.testBit_zero, Nat.testBit_zero]
        have : (n - 1) % 2 = 0 := by omega
        simp [this]
      | succ i =>
        rw [Nat.testBit_and, Nat.testBit_succ, Nat.testBit_succ]
        have : (n - 1) / 2 = n / 2 := by omega
        simp [this]
    · obtain ⟨k, h1, h2⟩ := ih (n / 2) (by omega) (by omega)
      refine ⟨k + 1, by rw [Nat.testBit_succ]; exact h1, fun i => ?_⟩
      cases i with
      | zero =>
        rw [Nat.testBit_and, Nat.testBit_zero]
        have : n % 2 = 0 := by omega
        simp [this]
      | succ i =>
        rw [Nat.testBit_and, Nat.testBit_succ, Nat.testBit_succ]
        have e : (n - 1) / 2 = n / 2 - 1 := by omega
        rw [e, ← Nat.testBit_and, h2 i]
        simp
theorem nb_bit_toNat (x : Int32) (i : Nat) : nb_bit x i = x.toBitVec.toNat.testBit i := rfl
theorem nb_bitL_toNat (x : Int64) (i : Nat) : nb_bitL x i = x.toBitVec.toNat.testBit i := rfl
def nb_ones (x : Int32) : Nat := nb_cnt (nb_bit x) 32
theorem nb_ones_step {v : Int32} (hv : ¬ v = 0) : nb_ones v = nb_ones (v &&& (v - 1)) + 1 := by
  have h0 : 0 < v.toBitVec.toNat := by
    rcases Nat.eq_zero_or_pos v.toBitVec.toNat with h | h
    · exact absurd (Int32.toBitVec_inj.mp (BitVec.eq_of_toNat_eq (by rw [h]; rfl))) hv
    · exact h
  obtain ⟨k, h1, h2⟩ := nb_low _ h0
  have e : (v &&& (v - 1)).toBitVec.toNat = v.toBitVec.toNat &&& (v.toBitVec.toNat - 1) := by
    rw [Int32.toBitVec_and, BitVec.toNat_and, Int32.toBitVec_sub]
    congr 1
    have : (1 : Int32).toBitVec.toNat = 1 := rfl
    rw [BitVec.toNat_sub, this]
    have := v.toBitVec.isLt
    omega
  have hk : k < 32 := by
    rcases Nat.lt_or_ge k 32 with h | h
    · exact h
    · have := Nat.testBit_lt_two_pow (x := v.toBitVec.toNat) (i := k) (Nat.lt_of_lt_of_le v.toBitVec.isLt (Nat.pow_le_pow_right (by omega) h))
      rw [this] at h1; cases h1
  have := nb_cnt_clear (f := nb_bit (v &&& (v - 1))) (g := nb_bit v) (k := k) (n := 32) (fun i _ => by rw [nb_bit_toNat, e, h2 i]; rfl) h1
  rw [if_pos hk] at this
  exact this
theorem nb_ones_0 : nb_ones 0 = 0 := by decide +kernel
theorem nb_ones_le (x : Int32) : nb_ones x ≤ 32 := nb_cnt_le _ _
section MO2
variable {E : gk_E} {d : Nat} {h : gk_H} {K : Int32 → gk_H → Prop}
theorem s_mo_onesOf_4 {t : Nat} (hk : K (nI t) h) : ∀ (n : Nat) (c : Nat) (v : Int32), nb_ones v = n → c + n = t → g_mo_onesOf_4 E d (gk_qi K) (nI c) v h := by
  intro n
  induction n with
  | zero =>
    intro c v hv hc
    refine x_mo_onesOf_4 ⟨fun _ => ?_, fun c0 => ?_⟩
    · have : c = t := by omega
      subst this; exact hk
    · have := nb_ones_step c0; omega
  | succ n ih =>
    intro c v hv hc
    refine x_mo_onesOf_4 ⟨fun c0 => ?_, fun c0 => ?_⟩
    · rw [c0, nb_ones_0] at hv; omega
    · intro x ex y ey
      subst ex; subst ey
      have := nb_ones_step c0
      rw [nI_1]
      exact ih (c + 1) _ (by omega) (by omega)
theorem s_mo_onesOf {v : Int32} (hk : K (nI (nb_ones v)) h) : gk_ci E (d + 1) jmo_onesOf [.ref 112, .int v] h K := by
  refine gk_ci_mk (x_mo_onesOf ?_)
  intro x ex y ey
  rw [ex, ey]
  exact s_mo_onesOf_4 hk _ 0 v rfl (by omega)
end MO2
