/-! numbers and bits -/
def nb_b (c : Bool) : Int32 := bif c then 1 else 0
theorem nb_b01 (c : Bool) : nb_b c = 0 ∨ nb_b c = 1 := by cases c <;> simp [nb_b]
theorem nb_b0 {c : Bool} : nb_b c = 0 ↔ c = false := by cases c <;> simp [nb_b]
theorem nb_b1 {c : Bool} : nb_b c = 1 ↔ c = true := by cases c <;> simp [nb_b]
theorem nb_lit (n : Nat) : (OfNat.ofNat n : Int32) = nI n := rfl
def nb_bit (x : Int32) (k : Nat) : Bool := x.toBitVec.getLsbD k
def nb_bitL (x : Int64) (k : Nat) : Bool := x.toBitVec.getLsbD k
theorem nb_sh : ∀ k, k < 32 → ((nI k &&& 31).toBitVec.smod 32).toNat = k := by decide +kernel
theorem nb_shr (x : Int32) {k : Nat} (hk : k < 32) : (x >>> (nI k &&& 31)).toBitVec = x.toBitVec.sshiftRight k := by
  rw [Int32.toBitVec_shiftRight]
  rw [BitVec.sshiftRight', nb_sh k hk]
theorem nb_shl (x : Int32) {k : Nat} (hk : k < 32) : (x <<< (nI k &&& 31)).toBitVec = x.toBitVec <<< k := by
  rw [Int32.toBitVec_shiftLeft]
  rw [BitVec.shiftLeft_eq', nb_sh k hk]
theorem nb_and1 (x : Int32) : (x &&& 1 = 1) ↔ x.toBitVec.getLsbD 0 = true := by
  constructor
  · intro h
    have h2 : (x &&& 1).toBitVec.getLsbD 0 = true := by rw [h]; rfl
    rw [Int32.toBitVec_and, BitVec.getLsbD_and] at h2
    exact (Bool.and_eq_true _ _ ▸ h2).1
  · intro h
    apply Int32.toBitVec_inj.mp
    rw [Int32.toBitVec_and]
    apply BitVec.eq_of_getLsbD_eq
    intro i hi
    rw [BitVec.getLsbD_and]
    by_cases h0 : i = 0
    · subst h0; rw [h]; rfl
    · have : (1 : Int32).toBitVec.getLsbD i = false := by
        have : ∀ i, i < 32 → i ≠ 0 → (1 : Int32).toBitVec.getLsbD i = false := by decide +kernel
        exact this i hi h0
      rw [this]; simp
theorem nb_has (x : Int32) {k : Nat} (hk : k < 32) : ((x >>> (nI k &&& 31)) &&& 1 = 1) ↔ nb_bit x k = true := by
  rw [nb_and1, nb_shr x hk, nb_bit, BitVec.getLsbD_sshiftRight]
  simp [hk]
theorem nb_shL : ∀ k, k < 64 → (((nI k).toInt64 &&& 63).toBitVec.smod 64).toNat = k := by decide +kernel
theorem nb_shU : ∀ k, k < 64 → (((nI k).toInt64.toUInt64 &&& Int64.toUInt64 63).toBitVec % 64).toNat = k := by decide +kernel
theorem nb_lshl (x : Int64) {k : Nat} (hk : k < 64) : (x <<< ((nI k).toInt64 &&& 63)).toBitVec = x.toBitVec <<< k := by
  rw [Int64.toBitVec_shiftLeft]
  rw [BitVec.shiftLeft_eq', nb_shL k hk]
theorem nb_lushr (x : Int64) {k : Nat} (hk : k < 64) : (x.toUInt64 >>> ((nI k).toInt64.toUInt64 &&& Int64.toUInt64 63)).toInt64.toBitVec = x.toBitVec >>> k := by
  show (x.toUInt64 >>> ((nI k).toInt64.toUInt64 &&& Int64.toUInt64 63)).toBitVec = _
  rw [UInt64.toBitVec_shiftRight, BitVec.ushiftRight_eq', nb_shU k hk]
  rfl
theorem nb_cmp0 (x : Int64) : lg_cmp x 0 = 0 ↔ x = 0 := by
  unfold lg_cmp
  by_cases h : x = 0
  · subst h; simp
  · simp only [h, iff_false]
    split <;> simp_all
/-! the reference's small functions -/
section MO1
variable {E : gk_E} {d : Nat} {h : gk_H} {K : Int32 → gk_H → Prop}
theorem s_mo_isIn {v lo hi : Int32} (hk : K (nb_b (decide (lo ≤ v) && decide (v ≤ hi))) h) : gk_ci E (d + 1) jmo_isIn [.ref 112, .int v, .int lo, .int hi] h K := by
  refine gk_ci_mk (x_mo_isIn ?_)
  unfold w_mo_isIn
  refine ⟨fun c => ⟨Or.inl rfl, ?_⟩, fun c => ⟨fun c2 => ⟨Or.inl rfl, ?_⟩, fun c2 => ⟨Or.inr rfl, ?_⟩⟩⟩
  · have e : decide (lo ≤ v) = false := decide_eq_false (Int32.not_le.mpr c)
    rw [e] at hk; exact hk
  · have e : decide (v ≤ hi) = false := decide_eq_false (Int32.not_le.mpr c2)
    rw [e, Bool.and_false] at hk; exact hk
  · have e : decide (v ≤ hi) = true := decide_eq_true (Int32.not_lt.mp c2)
    have e2 : decide (lo ≤ v) = true := decide_eq_true (Int32.not_lt.mp c)
    rw [e, e2] at hk; exact hk
theorem s_mo_has {x : Int32} {k : Nat} (hk0 : k < 32) (hk : K (nb_b (nb_bit x k)) h) : gk_ci E (d + 1) jmo_has [.ref 112, .int x, .int (nI k)] h K := by
  refine gk_ci_mk (x_mo_has ?_)
  unfold w_mo_has
  refine ⟨fun c => ⟨Or.inl rfl, ?_⟩, fun c => ⟨Or.inr rfl, ?_⟩⟩
  · have e : nb_bit x k = false := by
      cases hb : nb_bit x k with
      | false => rfl
      | true => exact absurd ((nb_has x hk0).mpr hb) c
    rw [e] at hk; exact hk
  · rw [(nb_has x hk0).mp c] at hk; exact hk
theorem s_mo_rowAt {p r : Nat} (hk : K (nI (51 + 8 * p + r)) h) : gk_ci E (d + 1) jmo_rowAt [.ref 112, .int (nI p), .int (nI r)] h K := by
  refine gk_ci_mk (x_mo_rowAt ?_)
  show K (nI 51 + nI 8 * nI p + nI r) h
  rw [pk_mul, nI_add, nI_add]
  exact hk
theorem s_mo_isDryCell {p c : Nat} (hp : p < 10) (hc : c < 64) (hk : K (nb_b (nb_bit (h.2.1 113 (51 + 8 * p + c / 8)) (c % 8))) h) : gk_ci E (d + 2) jmo_isDryCell [.ref 112, .int (nI p), .int (nI c)] h K := by
  refine gk_ci_mk (x_mo_isDryCell ?_)
  unfold w_mo_isDryCell
  refine ⟨by decide, ?_⟩
  have e1 : nI c / 8 = nI (c / 8) := pk_div (d := 8) (by omega) (by omega) (by omega)
  have e2 : nI c - nI c / 8 * 8 = nI (c % 8) := pk_rem (d := 8) (by omega) (by omega) (by omega)
  rw [e2, e1]
  refine s_mo_rowAt ⟨vp_in_nI (by omega) (by omega), by decide, ?_⟩
  rw [nI_clamp (by omega)]
  exact s_mo_has (by omega) ⟨nb_b01 _, hk⟩
end MO1
