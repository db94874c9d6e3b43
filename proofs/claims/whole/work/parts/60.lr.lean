/-! a row's bits -/
theorem lr_tb {g : Int64} {r c : Nat} : (g.toBitVec.toNat / 2 ^ (8 * r) % 256).testBit c = (decide (c < 8) && nb_bitL g (8 * r + c)) := by
  rw [show 256 = 2 ^ 8 from rfl, Nat.testBit_mod_two_pow, Nat.testBit_div_two_pow]
  unfold nb_bitL
  rw [BitVec.getLsbD, Nat.add_comm c]
theorem lr_ext {g : Int64} {r x : Nat} (hx : x < 256) (hb : ∀ c, c < 8 → nb_bitL g (8 * r + c) = x.testBit c) : lr g r = nI x := by
  unfold lr
  refine congrArg nI (Nat.eq_of_testBit_eq fun c => ?_)
  rw [lr_tb]
  by_cases q : c < 8
  · rw [decide_eq_true q, Bool.true_and]; exact hb c q
  · rw [decide_eq_false q, Bool.false_and]
    have h2 : 2 ^ 8 ≤ 2 ^ c := Nat.pow_le_pow_right (by decide) (by omega)
    exact (Nat.testBit_lt_two_pow (Nat.lt_of_lt_of_le hx h2)).symm
