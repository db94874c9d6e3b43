/-! the invariant holds at the start -/
def h_z : gk_H := (fun _ _ => 0, fun _ _ => 0, fun _ _ => 0)
def T_z : gT := ((0, 0, 0), fun _ => 0, fun _ => 0, fun _ => 0, [], fun _ => 0)
theorem hz_words : ∀ k, k < 120 → (h_st h_z).2.1 119 k = nI (wdN.getD k 0) := by decide +kernel
theorem hz_113 : ∀ k, k < 131 → (h_st h_z).2.1 113 k = 0 := by decide +kernel
theorem hz_4 : ∀ k, k < 10 → (h_st h_z).2.1 4 k = -1 := by decide +kernel
theorem hz_1 : ∀ k, k < 8 → (h_st h_z).1 1 k = 0 := by decide +kernel
theorem hz_2 : ∀ k, k < 10 → (h_st h_z).2.2 2 k = 0 := by decide +kernel
theorem hz_3 : ∀ k, k < 10 → (h_st h_z).2.1 3 k = 0 := by decide +kernel
theorem hz_5 : ∀ k, k < 10 → (h_st h_z).2.1 5 k = 0 := by decide +kernel
theorem hz_6 : ∀ k, k < 6 → (h_st h_z).2.1 6 k = 0 := by decide +kernel
theorem hz_15 : ∀ k, k < 4 → (h_st h_z).2.1 15 k = 0 := by decide +kernel
theorem hz_16 : ∀ k, k < 36 → (h_st h_z).2.1 16 k = 0 := by decide +kernel
theorem hz_18 : ∀ k, k < 10 → (h_st h_z).2.1 18 k = 0 := by decide +kernel
theorem hz_19 : ∀ k, k < 600 → (h_st h_z).2.1 19 k = 0 := by decide +kernel
theorem hz_116 : ∀ k, k < 10 → (h_st h_z).2.1 116 k = 0 := by decide +kernel
theorem hz_117 : ∀ k, k < 600 → (h_st h_z).2.1 117 k = 0 := by decide +kernel
theorem hz_128 : ∀ k, k < 36 → (h_st h_z).2.1 128 k = 0 := by decide +kernel
theorem hz_130 : ∀ k, k < 10 → (h_st h_z).2.1 130 k = 0 := by decide +kernel
theorem hz_f : ((h_st h_z).1 20 1 = 0 ∧ (h_st h_z).1 20 2 = 0 ∧ (h_st h_z).1 112 3 = 0) ∧ ((h_st h_z).1 112 6 = 0 ∧ (h_st h_z).1 8 0 = 0 ∧ (h_st h_z).1 8 1 = 0) ∧ ((h_st h_z).1 112 32 = 0 ∧ (h_st h_z).1 112 34 = 0 ∧ (h_st h_z).1 112 36 = 0 ∧ (h_st h_z).2.1 120 0 = 0) ∧ ((h_st h_z).1 58 4 = 0 ∧ (h_st h_z).1 112 10 = 0) ∧ ((h_st h_z).1 63 2 = (h_st h_z).1 112 30 ∧ (h_st h_z).1 63 3 = (h_st h_z).1 112 31) ∧ (h_st h_z).1 112 5 = 0 ∧ ((h_st h_z).1 0 15 = 0 ∧ (h_st h_z).1 112 52 = 0) := by decide +kernel
theorem okT_z : okT 0 T_z := ⟨⟨by decide, by decide, by decide⟩, fun k _ => ⟨0, by decide, rfl⟩, fun i hi => absurd hi (Nat.not_lt_zero _), fun k _ => ⟨0, by decide, rfl⟩, fun x hx => by cases hx⟩
theorem hz_wv : wv (h_st h_z) 1 = (fun _ => 0, fun _ => 0, fun _ => 0, fun p => if p < 10 then -1 else 0, fun _ => 0, fun _ => 0) := by
  have ii : ∀ {α : Type} {c : Prop} [Decidable c] {x z : α}, (c → x = z) → (if c then x else z) = z := by
    intro α c _ x z e
    by_cases q : c
    · rw [if_pos q]; exact e q
    · rw [if_neg q]
  refine Prod.ext (funext fun s => ?_) (Prod.ext (funext fun s => ?_) (Prod.ext (funext fun s => ?_) (Prod.ext (funext fun s => ?_) (Prod.ext (funext fun s => ?_) (funext fun s => ?_)))))
  · exact ii (hz_1 s)
  · exact ii (hz_2 s)
  · exact ii (hz_3 s)
  · exact if_c (hz_4 s)
  · exact ii (hz_5 s)
  · exact ii (hz_6 s)
theorem HI_z : InvX (h_st h_z) := by
  obtain ⟨⟨q1, q2, q3⟩, ⟨q4, q5, q6⟩, ⟨q7, q8, q9, q10⟩, ⟨q11, q12⟩, q13, q14, q15⟩ := hz_f
  refine ⟨(nI 0, fun _ => 0), 0, 0, fun _ => wv h_z 1, fun _ _ => 0, ⟨by decide, by decide, q1, q2, fun i hi => absurd hi (Nat.not_lt_zero _)⟩, ⟨by decide, q3, fun i hi => absurd hi (Nat.not_lt_zero _)⟩, fun i hi => absurd hi (Nat.not_lt_zero _), ?_, ?_⟩
  · rw [hz_wv]
    have z : ∀ j, j < 131 → rv (h_st h_z) 113 0 j = 0 := fun j hj => by rw [rv_at hj]; exact hz_113 j hj
    refine ⟨⟨rfl, rfl⟩, ⟨0, ⟨by decide, rfl⟩, fun p _ => ⟨bI_0 p, bI_0 p⟩, fun p _ hp => ⟨rfl, if_pos hp, rfl⟩, fun p hp => Or.inl (if_pos hp), 0, by decide, rfl⟩, z 0 (by decide), z 1 (by decide), z 2 (by decide), z 3 (by decide), z 4 (by decide), fun r hr => z _ (by omega), fun p hp => ⟨(z _ (by omega)).trans ?_, (z _ (by omega)).trans ?_, (z _ (by omega)).trans ?_, z _ (by omega), fun r hr => (z _ (by omega)).trans ?_⟩⟩
    · show (0 : Int32) = (if p < 10 then (-1 : Int32) else 0) + 1
      rw [if_pos hp]; decide
    · show (0 : Int32) = nb_b (nb_bit 0 p)
      rw [bI_0]; rfl
    · show (0 : Int32) = nb_b (nb_bit 0 p)
      rw [bI_0]; rfl
    · have lz : ∀ r, r < 8 → lr 0 r = 0 := by decide +kernel
      exact (lz r hr).symm
  · refine ⟨⟨0, T_z, ⟨by decide, rfl, q4⟩, hz_116, okT_z, ⟨⟨hz_15 1 (by decide), hz_15 2 (by decide), hz_15 3 (by decide)⟩, hz_16, fun k hk => absurd hk (Nat.not_lt_zero _), hz_18, ⟨⟨by decide, q5⟩, 0, ⟨by decide, q6⟩, fun l x e => by cases l <;> cases e⟩, hz_19⟩, ⟨⟨q7, q8, q9⟩, hz_128, fun k hk => absurd hk (Nat.not_lt_zero _), hz_130, ⟨⟨by decide, q10⟩, fun l x e => by cases l <;> cases e⟩, hz_117⟩⟩, ⟨0, by decide, q11, q12, fun k hk => absurd hk (Nat.not_lt_zero _)⟩, q13, q14, hz_words, Or.inl q15⟩
