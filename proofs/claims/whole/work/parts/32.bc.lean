/-! Long.bitCount counts the bits -/
theorem nb_and_split (w a b m n : Nat) (ha : a < 2 ^ w) (hm : m < 2 ^ w) : (a + 2 ^ w * b) &&& (m + 2 ^ w * n) = (a &&& m) + 2 ^ w * (b &&& n) := by
  have hp : 0 < 2 ^ w := Nat.two_pow_pos w
  have h1 : ((a + 2 ^ w * b) &&& (m + 2 ^ w * n)) % 2 ^ w = a &&& m := by
    rw [Nat.and_mod_two_pow, Nat.add_mul_mod_self_left, Nat.add_mul_mod_self_left, Nat.mod_eq_of_lt ha, Nat.mod_eq_of_lt hm]
  have h2 : ((a + 2 ^ w * b) &&& (m + 2 ^ w * n)) / 2 ^ w = b &&& n := by
    rw [Nat.and_div_two_pow, Nat.add_mul_div_left _ _ hp, Nat.add_mul_div_left _ _ hp, Nat.div_eq_of_lt ha, Nat.div_eq_of_lt hm, Nat.zero_add, Nat.zero_add]
  have h3 := Nat.mod_add_div ((a + 2 ^ w * b) &&& (m + 2 ^ w * n)) (2 ^ w)
  rw [h1, h2] at h3
  exact h3.symm
/-- a byte again and again -/
def nb_rep (m : Nat) : Nat → Nat
  | 0 => 0
  | k + 1 => m + 2 ^ 8 * nb_rep m k
def nb_s1 (k n : Nat) : Nat := n - (n / 2 &&& nb_rep 0x55 k)
def nb_s2 (k n : Nat) : Nat := (n &&& nb_rep 0x33 k) + (n / 4 &&& nb_rep 0x33 k)
def nb_s3 (k n : Nat) : Nat := (n + n / 16) &&& nb_rep 0x0f k
/-- the bytes' counts, as bytes -/
def nb_sum8 : Nat → Nat → Nat
  | 0, _ => 0
  | k + 1, n => nb_cnt (Nat.testBit (n % 256)) 8 + 256 * nb_sum8 k (n / 256)
theorem nb_t1 : ∀ b, b < 256 → ∀ e, e < 2 → (b / 2 + 128 * e) &&& 0x55 = (b / 2) &&& 0x55 := by decide +kernel
theorem nb_t1b : ∀ b, b < 256 → (b / 2) &&& 0x55 ≤ b ∧ b - ((b / 2) &&& 0x55) < 256 := by decide +kernel
theorem nb_t2 : ∀ c, c < 256 → ∀ e, e < 4 → (c / 4 + 64 * e) &&& 0x33 = (c / 4) &&& 0x33 := by decide +kernel
theorem nb_t3 : ∀ b, b < 256 → (fun c => (fun x => x < 256 ∧ x % 16 ≤ 4 ∧ x / 16 ≤ 4 ∧ (x + x / 16) &&& 0x0f = nb_cnt (Nat.testBit b) 8) ((c &&& 0x33) + ((c / 4) &&& 0x33))) (b - ((b / 2) &&& 0x55)) := by decide +kernel
theorem nb_t4 : ∀ y, y < 256 → ∀ e, e < 16 → (y + 16 * e < 256) → (y + 16 * e) &&& 0x0f = y &&& 0x0f := by decide +kernel
theorem nb_s1_le (k : Nat) : ∀ n, (n / 2 &&& nb_rep 0x55 k) ≤ n := fun n => Nat.le_trans Nat.and_le_left (Nat.div_le_self n 2)
theorem nb_s1_split (k b n : Nat) (hb : b < 256) : nb_s1 (k + 1) (b + 2 ^ 8 * n) = (b - ((b / 2) &&& 0x55)) + 2 ^ 8 * nb_s1 k n := by
  have e : (b + 2 ^ 8 * n) / 2 = (b / 2 + 128 * (n % 2)) + 2 ^ 8 * (n / 2) := by omega
  unfold nb_s1
  rw [e, nb_rep, nb_and_split 8 _ _ _ _ (by omega) (by omega), nb_t1 b hb _ (by omega)]
  have h1 := (nb_t1b b hb).1
  have h2 := nb_s1_le k n
  omega
theorem nb_s2_split (k c n : Nat) (hc : c < 256) : nb_s2 (k + 1) (c + 2 ^ 8 * n) = ((c &&& 0x33) + ((c / 4) &&& 0x33)) + 2 ^ 8 * nb_s2 k n := by
  have e : (c + 2 ^ 8 * n) / 4 = (c / 4 + 64 * (n % 4)) + 2 ^ 8 * (n / 4) := by omega
  unfold nb_s2
  rw [e, nb_rep, nb_and_split 8 _ _ _ _ (by omega) (by omega), nb_and_split 8 _ _ _ _ (by omega) (by omega), nb_t2 c hc _ (by omega)]
  omega
theorem nb_123 : ∀ (k n : Nat), nb_s3 k (nb_s2 k (nb_s1 k n)) = nb_sum8 k n ∧ (nb_s2 k (nb_s1 k n)) % 16 ≤ 4 := by
  intro k
  induction k with
  | zero => intro n; simp [nb_s3, nb_s2, nb_s1, nb_rep, nb_sum8]
  | succ k ih =>
    intro n
    have hb : n % 256 < 256 := Nat.mod_lt _ (by omega)
    obtain ⟨i1, i2⟩ := ih (n / 256)
    have e : n = n % 256 + 2 ^ 8 * (n / 256) := by omega
    obtain ⟨t1, t2, t3, t4⟩ := nb_t3 (n % 256) hb
    rw [e, nb_s1_split k _ _ hb, nb_s2_split k _ _ (nb_t1b _ hb).2]
    rw [show (n % 256 + 2 ^ 8 * (n / 256)) = n from e.symm]
    generalize hy : ((n % 256 - (n % 256 / 2 &&& 85)) &&& 51) + ((n % 256 - (n % 256 / 2 &&& 85)) / 4 &&& 51) = y at *
    generalize hz : nb_s2 k (nb_s1 k (n / 256)) = z at *
    refine ⟨?_, by omega⟩
    have e2 : (y + 2 ^ 8 * z) + (y + 2 ^ 8 * z) / 16 = ((y + y / 16) + 16 * (z % 16)) + 2 ^ 8 * (z + z / 16) := by omega
    have hlt : (y + y / 16) + 16 * (z % 16) < 256 := by omega
    rw [nb_s3, e2, nb_rep, nb_and_split 8 _ _ _ _ hlt (by omega), nb_t4 _ (by omega) _ (by omega) hlt, t4]
    rw [nb_sum8]
    unfold nb_s3 at i1
    rw [i1]
theorem nb_cnt8 (n : Nat) : ∀ k, nb_cnt n.testBit (8 * k) = nb_cnt n.testBit (8 * k) := fun _ => rfl
theorem nb_sum8_digits (n : Nat) : ∃ e0 e1 e2 e3 e4 e5 e6 e7 : Nat, (e0 ≤ 8 ∧ e1 ≤ 8 ∧ e2 ≤ 8 ∧ e3 ≤ 8 ∧ e4 ≤ 8 ∧ e5 ≤ 8 ∧ e6 ≤ 8 ∧ e7 ≤ 8) ∧ nb_sum8 8 n = e0 + 256 * (e1 + 256 * (e2 + 256 * (e3 + 256 * (e4 + 256 * (e5 + 256 * (e6 + 256 * e7)))))) ∧ nb_cnt n.testBit 64 = e0 + e1 + e2 + e3 + e4 + e5 + e6 + e7 := by
  have by8 : ∀ (m : Nat) (q : Nat), nb_cnt m.testBit (8 + q) = nb_cnt (Nat.testBit (m % 256)) 8 + nb_cnt (m / 256).testBit q := by
    intro m q
    rw [nb_cnt_add]
    congr 1
    · refine nb_cnt_congr fun i hi => ?_
      rw [show (256 : Nat) = 2 ^ 8 from rfl, Nat.testBit_mod_two_pow]
      simp [hi]
    · refine nb_cnt_congr fun i hi => ?_
      rw [show (256 : Nat) = 2 ^ 8 from rfl, Nat.testBit_div_two_pow, Nat.add_comm]
  refine ⟨_, _, _, _, _, _, _, _, ⟨nb_cnt_le _ _, nb_cnt_le _ _, nb_cnt_le _ _, nb_cnt_le _ _, nb_cnt_le _ _, nb_cnt_le _ _, nb_cnt_le _ _, nb_cnt_le _ _⟩, rfl, ?_⟩
  rw [show (64 : Nat) = 8 + (8 + (8 + (8 + (8 + (8 + (8 + (8 + 0))))))) from rfl, by8, by8, by8, by8, by8, by8, by8, by8]
  simp only [nb_cnt, Nat.add_zero, Nat.add_assoc]
theorem nb_fold (n : Nat) : ∀ t, t = nb_sum8 8 n → ∀ u, u = t + t / 2 ^ 8 → ∀ v, v = u + u / 2 ^ 16 → ∀ w, w = v + v / 2 ^ 32 → w % 128 = nb_cnt n.testBit 64 ∧ w < 2 ^ 63 := by
  intro t ht u hu v hv w hw
  obtain ⟨e0, e1, e2, e3, e4, e5, e6, e7, ⟨b0, b1, b2, b3, b4, b5, b6, b7⟩, hs, hc⟩ := nb_sum8_digits n
  rw [hs] at ht
  rw [hc]
  have t1 : t / 2 ^ 8 = e1 + 256 * (e2 + 256 * (e3 + 256 * (e4 + 256 * (e5 + 256 * (e6 + 256 * e7))))) := by omega
  obtain ⟨f0, hf0⟩ : ∃ x, x = e0 + e1 := ⟨_, rfl⟩
  obtain ⟨f1, hf1⟩ : ∃ x, x = e1 + e2 := ⟨_, rfl⟩
  obtain ⟨f2, hf2⟩ : ∃ x, x = e2 + e3 := ⟨_, rfl⟩
  obtain ⟨f3, hf3⟩ : ∃ x, x = e3 + e4 := ⟨_, rfl⟩
  obtain ⟨f4, hf4⟩ : ∃ x, x = e4 + e5 := ⟨_, rfl⟩
  obtain ⟨f5, hf5⟩ : ∃ x, x = e5 + e6 := ⟨_, rfl⟩
  obtain ⟨f6, hf6⟩ : ∃ x, x = e6 + e7 := ⟨_, rfl⟩
  have u1 : u = f0 + 256 * (f1 + 256 * (f2 + 256 * (f3 + 256 * (f4 + 256 * (f5 + 256 * (f6 + 256 * e7)))))) := by rw [hu, t1]; omega
  have hb : e0 + e1 + e2 + e3 + e4 + e5 + e6 + e7 = f0 + f2 + (f4 + f6) := by omega
  rw [hb]
  have c0 : f0 ≤ 16 := by omega
  have c1 : f1 ≤ 16 := by omega
  have c2 : f2 ≤ 16 := by omega
  have c3 : f3 ≤ 16 := by omega
  have c4 : f4 ≤ 16 := by omega
  have c5 : f5 ≤ 16 := by omega
  have c6 : f6 ≤ 16 := by omega
  clear hu ht t1 hs hc hb hf0 hf1 hf2 hf3 hf4 hf5 hf6 b0 b1 b2 b3 b4 b5 b6
  have u2 : u / 2 ^ 16 = f2 + 256 * (f3 + 256 * (f4 + 256 * (f5 + 256 * (f6 + 256 * e7)))) := by omega
  have v1 : v = (f0 + f2) + 256 * ((f1 + f3) + 256 * ((f2 + f4) + 256 * ((f3 + f5) + 256 * ((f4 + f6) + 256 * ((f5 + e7) + 256 * (f6 + 256 * e7)))))) := by rw [hv, u2]; omega
  clear hv u1 u2
  have v2 : v / 2 ^ 32 = (f4 + f6) + 256 * ((f5 + e7) + 256 * (f6 + 256 * e7)) := by omega
  rw [v2] at hw
  clear v2
  omega
/-- the function's numbers as natural numbers -/
theorem nb_L_and (x y : Int64) : (x &&& y).toBitVec.toNat = x.toBitVec.toNat &&& y.toBitVec.toNat := by rw [Int64.toBitVec_and, BitVec.toNat_and]
theorem nb_L_add {x y : Int64} (h : x.toBitVec.toNat + y.toBitVec.toNat < 2 ^ 64) : (x + y).toBitVec.toNat = x.toBitVec.toNat + y.toBitVec.toNat := by rw [Int64.toBitVec_add, BitVec.toNat_add, Nat.mod_eq_of_lt h]
theorem nb_L_sub {x y : Int64} (h : y.toBitVec.toNat ≤ x.toBitVec.toNat) : (x - y).toBitVec.toNat = x.toBitVec.toNat - y.toBitVec.toNat := by
  rw [Int64.toBitVec_sub, BitVec.toNat_sub]
  have := x.toBitVec.isLt
  have := y.toBitVec.isLt
  omega
theorem nb_L_shr (x : Int64) {k : Nat} (hk : k < 64) : (x.toUInt64 >>> ((nI k).toInt64.toUInt64 &&& Int64.toUInt64 63)).toInt64.toBitVec.toNat = x.toBitVec.toNat / 2 ^ k := by
  rw [nb_lushr x hk, BitVec.toNat_ushiftRight, Nat.shiftRight_eq_div_pow]
theorem nb_m5 : (6148914691236517205 : Int64).toBitVec.toNat = nb_rep 0x55 8 := by decide +kernel
theorem nb_m3 : (3689348814741910323 : Int64).toBitVec.toNat = nb_rep 0x33 8 := by decide +kernel
theorem nb_m0 : (1085102592571150095 : Int64).toBitVec.toNat = nb_rep 0x0f 8 := by decide +kernel
theorem nb_rep33 : nb_rep 0x33 8 < 2 ^ 62 := by decide +kernel
theorem nb_rep0f : nb_rep 0x0f 8 < 2 ^ 60 := by decide +kernel
def nb_onesL (x : Int64) : Nat := nb_cnt (nb_bitL x) 64
theorem nb_onesL_le (x : Int64) : nb_onesL x ≤ 64 := nb_cnt_le _ _
section BC
variable {E : gk_E} {d : Nat} {h : gk_H} {K : Int32 → gk_H → Prop}
theorem s_jl_bitCount {x : Int64} (hk : K (nI (nb_onesL x)) h) : gk_ci E (d + 1) jjl_bitCount [.long x] h K := by
  refine gk_ci_mk (x_jl_bitCount ?_)
  intro x1 e1 x2 e2 x3 e3 x4 e4 x5 e5 x6 e6
  have q1 : (x.toUInt64 >>> ((1 : Int32).toInt64.toUInt64 &&& Int64.toUInt64 63)).toInt64.toBitVec.toNat = x.toBitVec.toNat / 2 ^ 1 := nb_L_shr x (k := 1) (by omega)
  have q2 : (x1.toUInt64 >>> ((2 : Int32).toInt64.toUInt64 &&& Int64.toUInt64 63)).toInt64.toBitVec.toNat = x1.toBitVec.toNat / 4 := nb_L_shr x1 (k := 2) (by omega)
  have q4 : (x2.toUInt64 >>> ((4 : Int32).toInt64.toUInt64 &&& Int64.toUInt64 63)).toInt64.toBitVec.toNat = x2.toBitVec.toNat / 16 := nb_L_shr x2 (k := 4) (by omega)
  have q8 : (x3.toUInt64 >>> ((8 : Int32).toInt64.toUInt64 &&& Int64.toUInt64 63)).toInt64.toBitVec.toNat = x3.toBitVec.toNat / 2 ^ 8 := nb_L_shr x3 (k := 8) (by omega)
  have q16 : (x4.toUInt64 >>> ((16 : Int32).toInt64.toUInt64 &&& Int64.toUInt64 63)).toInt64.toBitVec.toNat = x4.toBitVec.toNat / 2 ^ 16 := nb_L_shr x4 (k := 16) (by omega)
  have q32 : (x5.toUInt64 >>> ((32 : Int32).toInt64.toUInt64 &&& Int64.toUInt64 63)).toInt64.toBitVec.toNat = x5.toBitVec.toNat / 2 ^ 32 := nb_L_shr x5 (k := 32) (by omega)
  have n1 : x1.toBitVec.toNat = nb_s1 8 x.toBitVec.toNat := by
    rw [e1, nb_L_sub] <;> rw [nb_L_and, q1, nb_m5]
    · rfl
    · exact nb_s1_le 8 _
  have a2 := Nat.and_le_right (n := x1.toBitVec.toNat) (m := nb_rep 0x33 8)
  have b2 := Nat.and_le_right (n := x1.toBitVec.toNat / 4) (m := nb_rep 0x33 8)
  have n2 : x2.toBitVec.toNat = nb_s2 8 x1.toBitVec.toNat := by
    rw [e2, nb_L_add] <;> rw [nb_L_and, nb_L_and, q2, nb_m3]
    · rfl
    · have := nb_rep33; omega
  have c2 : x2.toBitVec.toNat < 2 ^ 63 := by
    rw [n2]; unfold nb_s2
    have := nb_rep33
    omega
  have n3 : x3.toBitVec.toNat = nb_s3 8 x2.toBitVec.toNat := by
    rw [e3, nb_L_and, nb_L_add] <;> rw [q4]
    · rw [nb_m0]; rfl
    · omega
  have n3b : x3.toBitVec.toNat = nb_sum8 8 x.toBitVec.toNat := by rw [n3, n2, n1]; exact (nb_123 8 _).1
  have c3 : x3.toBitVec.toNat < 2 ^ 60 := by
    rw [n3]; unfold nb_s3
    exact Nat.lt_of_le_of_lt Nat.and_le_right nb_rep0f
  have n4 : x4.toBitVec.toNat = x3.toBitVec.toNat + x3.toBitVec.toNat / 2 ^ 8 := by
    rw [e4, nb_L_add] <;> rw [q8]
    omega
  have n5 : x5.toBitVec.toNat = x4.toBitVec.toNat + x4.toBitVec.toNat / 2 ^ 16 := by
    rw [e5, nb_L_add] <;> rw [q16]
    omega
  have n6 : x6.toBitVec.toNat = x5.toBitVec.toNat + x5.toBitVec.toNat / 2 ^ 32 := by
    rw [e6, nb_L_add] <;> rw [q32]
    omega
  obtain ⟨f1, f2⟩ := nb_fold x.toBitVec.toNat _ n3b _ n4 _ n5 _ n6
  show K (x6.toInt32 &&& 127) h
  have : x6.toInt32 &&& 127 = nI (nb_onesL x) := by
    rw [pk_and x6.toInt32 (m := 127) 7 (by decide +kernel)]
    congr 1
    have e9 : x6.toInt32.toBitVec.toNat = x6.toBitVec.toNat % 2 ^ 32 := by
      show (x6.toBitVec.signExtend 32).toNat = _
      rw [BitVec.signExtend_eq_setWidth_of_le _ (by omega), BitVec.toNat_setWidth]
    rw [e9]
    show _ = nb_cnt x.toBitVec.toNat.testBit 64
    omega
  rw [this]
  exact hk
end BC
