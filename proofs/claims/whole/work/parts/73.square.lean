/-! squares and rounds, class -/
def gSqN (x : Int64) : Nat → Int64
  | 0 => x
  | n + 1 => (gSqN x n &&& gLf (gSqN x n)) &&& gUp (gSqN x n &&& gLf (gSqN x n))
def sqP (f : Nat → Bool) (c s : Nat) : Prop := c / 8 + s ≤ 8 ∧ c % 8 + s ≤ 8 ∧ ∀ i j, i < s → j < s → f (c + 8 * i + j) = true
theorem bL_sq {x : Int64} : ∀ {n c : Nat}, c < 64 → (nb_bitL (gSqN x n) c = true ↔ sqP (nb_bitL x) c (n + 1)) := by
  intro n
  induction n with
  | zero =>
    intro c hc
    constructor
    · intro q
      refine ⟨by omega, by omega, fun i j h1 h2 => ?_⟩
      rw [show i = 0 by omega, show j = 0 by omega]; exact q
    · intro q
      exact q.2.2 0 0 (by decide) (by decide)
  | succ n ih =>
    intro c hc
    rw [gSqN, bL_and, bL_and, bL_up, bL_and, bL_lf, bL_lf]
    simp only [Bool.and_eq_true, decide_eq_true_eq]
    constructor
    · rintro ⟨⟨q1, q2, q3⟩, q4, q5, q6⟩
      have l3 := bL_lt q3
      have l4 := bL_lt q4
      have l6 := bL_lt q6
      obtain ⟨a1, a2, a3⟩ := (ih hc).mp q1
      obtain ⟨b1, b2, b3⟩ := (ih l3).mp q3
      obtain ⟨c1, c2, c3⟩ := (ih l4).mp q4
      obtain ⟨d1, d2, d3⟩ := (ih l6).mp q6
      refine ⟨by omega, by omega, fun i j h1 h2 => ?_⟩
      by_cases zi : i < n + 1
      · by_cases zj : j < n + 1
        · exact a3 i j zi zj
        · have := b3 i n zi (by omega)
          rwa [show c + 1 + 8 * i + n = c + 8 * i + j by omega] at this
      · by_cases zj : j < n + 1
        · have := c3 n j (by omega) zj
          rwa [show c + 8 + 8 * n + j = c + 8 * i + j by omega] at this
        · have := d3 n n (by omega) (by omega)
          rwa [show c + 8 + 1 + 8 * n + n = c + 8 * i + j by omega] at this
    · rintro ⟨q1, q2, q3⟩
      refine ⟨⟨(ih hc).mpr ⟨by omega, by omega, fun i j h1 h2 => q3 i j (by omega) (by omega)⟩, by omega, (ih (by omega)).mpr ⟨by omega, by omega, fun i j h1 h2 => ?_⟩⟩, (ih (by omega)).mpr ⟨by omega, by omega, fun i j h1 h2 => ?_⟩, by omega, (ih (by omega)).mpr ⟨by omega, by omega, fun i j h1 h2 => ?_⟩⟩
      · have := q3 i (j + 1) (by omega) (by omega)
        rwa [show c + 8 * i + (j + 1) = c + 1 + 8 * i + j by omega] at this
      · have := q3 (i + 1) j (by omega) (by omega)
        rwa [show c + 8 * (i + 1) + j = c + 8 + 8 * i + j by omega] at this
      · have := q3 (i + 1) (j + 1) (by omega) (by omega)
        rwa [show c + 8 * (i + 1) + (j + 1) = c + 8 + 1 + 8 * i + j by omega] at this
theorem sq_8 (x : Int64) : gSqN x 8 = 0 := bL_eq0 fun c hc => by
  cases e : nb_bitL (gSqN x 8) c with
  | false => rfl
  | true => have := ((bL_sq hc).mp e).1; omega
theorem sq_mono {x : Int64} {n : Nat} (h : gSqN x n = 0) : ∀ k, gSqN x (n + k) = 0 := by
  intro k
  induction k with
  | zero => exact h
  | succ k ih =>
    rw [← Nat.add_assoc, gSqN, ih]
    refine bL_eq0 fun c _ => ?_
    rw [bL_and, bL_and, bL_0]; rfl
theorem sq_ex (x : Int64) : ∃ n, n ≤ 8 ∧ gSqN x n = 0 ∧ ∀ i, i < n → ¬ gSqN x i = 0 := by
  obtain ⟨n, h1, h2⟩ := pk_least (fun n => gSqN x n = 0) ⟨8, sq_8 x⟩
  refine ⟨n, ?_, h1, h2⟩
  rcases Nat.lt_or_ge 8 n with q | q
  · exact absurd (sq_8 x) (h2 8 q)
  · exact q
def gSfN (y : Int64) : Nat → Int64
  | 0 => y
  | n + 1 => (gSfN y n ||| gRt (gSfN y n)) ||| gDn (gSfN y n ||| gRt (gSfN y n))
def covP (f : Nat → Bool) (n t : Nat) : Prop := ∃ c i j, f c = true ∧ i ≤ n ∧ j ≤ n ∧ t = c + 8 * i + j ∧ c % 8 + j < 8
theorem bL_sf {y : Int64} : ∀ {n t : Nat}, t < 64 → (nb_bitL (gSfN y n) t = true ↔ covP (nb_bitL y) n t) := by
  intro n
  induction n with
  | zero =>
    intro t ht
    constructor
    · intro q; exact ⟨t, 0, 0, q, Nat.le_refl _, Nat.le_refl _, rfl, by omega⟩
    · rintro ⟨c, i, j, q, h1, h2, h3, h4⟩
      rw [show t = c by omega]; exact q
  | succ n ih =>
    intro t ht
    have two : ∀ t, t < 64 → (nb_bitL (gSfN y n ||| gRt (gSfN y n)) t = true ↔ ∃ c i j, nb_bitL y c = true ∧ i ≤ n ∧ j ≤ n + 1 ∧ t = c + 8 * i + j ∧ c % 8 + j < 8) := by
      intro t ht
      rw [bL_or, bL_rt]
      simp only [Bool.or_eq_true, Bool.and_eq_true, decide_eq_true_eq]
      constructor
      · rintro (q | ⟨-, q2, q3⟩)
        · obtain ⟨c, i, j, a1, a2, a3, a4, a5⟩ := (ih ht).mp q
          exact ⟨c, i, j, a1, a2, by omega, a4, a5⟩
        · obtain ⟨c, i, j, a1, a2, a3, a4, a5⟩ := (ih (bL_lt q3)).mp q3
          exact ⟨c, i, j + 1, a1, a2, by omega, by omega, by omega⟩
      · rintro ⟨c, i, j, a1, a2, a3, a4, a5⟩
        by_cases z : j ≤ n
        · exact Or.inl ((ih ht).mpr ⟨c, i, j, a1, a2, z, a4, a5⟩)
        · exact Or.inr ⟨ht, by omega, (ih (by omega)).mpr ⟨c, i, n, a1, a2, Nat.le_refl _, by omega, by omega⟩⟩
    rw [gSfN, bL_or, bL_dn]
    simp only [Bool.or_eq_true, Bool.and_eq_true, decide_eq_true_eq] at *
    rw [two t ht]
    constructor
    · rintro (⟨c, i, j, a1, a2, a3, a4, a5⟩ | ⟨-, q2, q3⟩)
      · exact ⟨c, i, j, a1, by omega, a3, a4, a5⟩
      · obtain ⟨c, i, j, a1, a2, a3, a4, a5⟩ := (two _ (bL_lt q3)).mp q3
        exact ⟨c, i + 1, j, a1, by omega, a3, by omega, a5⟩
    · rintro ⟨c, i, j, a1, a2, a3, a4, a5⟩
      by_cases z : i ≤ n
      · exact Or.inl ⟨c, i, j, a1, z, a3, a4, a5⟩
      · exact Or.inr ⟨ht, by omega, (two _ (by omega)).mpr ⟨c, n, j, a1, Nat.le_refl _, a3, by omega, a5⟩⟩
section SQ1
variable {E : gk_E} {d : Nat} {h : gk_H} {x : Int64}
theorem s_gr_squareCorners {K : Int64 → gk_H → Prop} {s : Nat} (hs : s < 2 ^ 31) (hk : K (gSqN x (s - 1)) h) : gk_cl2 E (d + 2) jgr_squareCorners [.long x, .int (nI s)] h K := by
  refine gk_cl_mk (x_gr_squareCorners (fe (fe ?_)))
  cases s with
  | zero => exact x_gr_squareCorners_5 (pk_le 0 1 (fun _ => hk) (fun q => by omega))
  | succ s =>
    refine lp_up (N := s) (fun j (_ : Unit) => g_gr_squareCorners_5 E (d + 1) (gk_ql K) (nI (s + 1)) (gSqN x j) (nI (j + 1)) h) (fun _ _ => True) ?_ ?_ 0 () (Nat.zero_le _) trivial
    · intro j _ hj _ ih
      refine x_gr_squareCorners_5 (pk_le (s + 1) (j + 1) (fun q => by omega) (fun _ => s_gr_left (fe (s_gr_up (fe (fe ?_))))))
      rw [nI_1]
      exact ih () trivial
    · intro _ _
      exact x_gr_squareCorners_5 (pk_le (s + 1) (s + 1) (fun _ => hk) (fun q => by omega))
theorem s_gr_squaresFrom {K : Int64 → gk_H → Prop} {s : Nat} (hs : s < 2 ^ 31) (hk : K (gSfN x (s - 1)) h) : gk_cl2 E (d + 2) jgr_squaresFrom [.long x, .int (nI s)] h K := by
  refine gk_cl_mk (x_gr_squaresFrom (fe (fe ?_)))
  cases s with
  | zero => exact x_gr_squaresFrom_5 (pk_le 0 1 (fun _ => hk) (fun q => by omega))
  | succ s =>
    refine lp_up (N := s) (fun j (_ : Unit) => g_gr_squaresFrom_5 E (d + 1) (gk_ql K) (nI (s + 1)) (gSfN x j) (nI (j + 1)) h) (fun _ _ => True) ?_ ?_ 0 () (Nat.zero_le _) trivial
    · intro j _ hj _ ih
      refine x_gr_squaresFrom_5 (pk_le (s + 1) (j + 1) (fun q => by omega) (fun _ => s_gr_right (fe (s_gr_down (fe (fe ?_))))))
      rw [nI_1]
      exact ih () trivial
    · intro _ _
      exact x_gr_squaresFrom_5 (pk_le (s + 1) (s + 1) (fun _ => hk) (fun q => by omega))
theorem s_gr_squareSide {K : Int32 → gk_H → Prop} {n : Nat} (h8 : n ≤ 8) (hz : gSqN x n = 0) (hl : ∀ i, i < n → ¬ gSqN x i = 0) (hk : K (nI n) h) : gk_ci E (d + 3) jgr_squareSide [.long x] h K := by
  refine gk_ci_mk (x_gr_squareSide (fe (fe ?_)))
  refine lp_up (N := n) (fun j (_ : Unit) => g_gr_squareSide_4 E (d + 2) (gk_qi K) x (nI j) (nI (j + 1)) h) (fun _ _ => True) ?_ ?_ 0 () (Nat.zero_le _) trivial
  · intro j _ hj _ ih
    refine x_gr_squareSide_4 (pk_lt 8 (j + 1) (fun q => by omega) (fun _ => s_gr_squareCorners (by omega) ?_))
    rw [nb_cmp0, Nat.add_sub_cancel]
    refine yF (hl j hj) (fe (fe ?_))
    rw [nI_1]
    exact ih () trivial
  · intro _ _
    refine x_gr_squareSide_4 (pk_lt 8 (n + 1) (fun _ => hk) (fun q => s_gr_squareCorners (by omega) ?_))
    rw [nb_cmp0, Nat.add_sub_cancel]
    exact yT hz hk
end SQ1
/-! rounds: a diamond of k steps around (a, b) -/
def rdP (f : Nat → Bool) (a b : Int) (k : Nat) : Prop := ∀ u v : Int, (u - a) + (v - b) ≤ k → (u - a) - (v - b) ≤ k → -(u - a) + (v - b) ≤ k → -(u - a) - (v - b) ≤ k → (0 ≤ u ∧ u < 8) ∧ (0 ≤ v ∧ v < 8) ∧ f (8 * u + v).toNat = true
theorem bL_rd {x : Int64} : ∀ {k c : Nat}, c < 64 → (nb_bitL (gShN x k) c = true ↔ rdP (nb_bitL x) (c / 8 : Nat) (c % 8 : Nat) k) := by
  intro k
  induction k with
  | zero =>
    intro c hc
    constructor
    · intro q u v h1 h2 h3 h4
      have e1 : u = (c / 8 : Nat) := by omega
      have e2 : v = (c % 8 : Nat) := by omega
      refine ⟨by omega, by omega, ?_⟩
      rw [show (8 * u + v).toNat = c by omega]; exact q
    · intro q
      have := (q (c / 8 : Nat) (c % 8 : Nat) (by omega) (by omega) (by omega) (by omega)).2.2
      rwa [show (8 * ((c / 8 : Nat) : Int) + ((c % 8 : Nat) : Int)).toNat = c by omega] at this
  | succ k ih =>
    intro c hc
    rw [gShN, bL_sh hc]
    simp only [Bool.and_eq_true, decide_eq_true_eq]
    constructor
    · rintro ⟨q0, ⟨⟨q1, q2, q3⟩, q4, q5⟩, q6, q7⟩
      have l1 := bL_lt q1
      have r0 := (ih hc).mp q0
      have r1 := (ih l1).mp q1
      have r3 := (ih (bL_lt q3)).mp q3
      have r5 := (ih (bL_lt q5)).mp q5
      have r7 := (ih (bL_lt q7)).mp q7
      intro u v h1 h2 h3 h4
      by_cases z0 : (u - (c / 8 : Nat)) + (v - (c % 8 : Nat)) ≤ k ∧ (u - (c / 8 : Nat)) - (v - (c % 8 : Nat)) ≤ k ∧ -(u - (c / 8 : Nat)) + (v - (c % 8 : Nat)) ≤ k ∧ -(u - (c / 8 : Nat)) - (v - (c % 8 : Nat)) ≤ k
      · exact r0 u v z0.1 z0.2.1 z0.2.2.1 z0.2.2.2
      · by_cases z1 : (c / 8 : Nat) < u
        · exact r1 u v (by omega) (by omega) (by omega) (by omega)
        · by_cases z2 : u < (c / 8 : Nat)
          · exact r3 u v (by omega) (by omega) (by omega) (by omega)
          · by_cases z3 : (c % 8 : Nat) < v
            · exact r5 u v (by omega) (by omega) (by omega) (by omega)
            · exact r7 u v (by omega) (by omega) (by omega) (by omega)
    · intro q
      have n1 := (q ((c / 8 : Nat) + 1) (c % 8 : Nat) (by omega) (by omega) (by omega) (by omega)).1
      have n2 := (q ((c / 8 : Nat) - 1) (c % 8 : Nat) (by omega) (by omega) (by omega) (by omega)).1
      have n3 := (q (c / 8 : Nat) ((c % 8 : Nat) + 1) (by omega) (by omega) (by omega) (by omega)).2.1
      have n4 := (q (c / 8 : Nat) ((c % 8 : Nat) - 1) (by omega) (by omega) (by omega) (by omega)).2.1
      refine ⟨(ih hc).mpr fun u v h1 h2 h3 h4 => q u v (by omega) (by omega) (by omega) (by omega), ⟨⟨(ih (by omega)).mpr fun u v h1 h2 h3 h4 => q u v (by omega) (by omega) (by omega) (by omega), by omega, (ih (by omega)).mpr fun u v h1 h2 h3 h4 => q u v (by omega) (by omega) (by omega) (by omega)⟩, by omega, (ih (by omega)).mpr fun u v h1 h2 h3 h4 => q u v (by omega) (by omega) (by omega) (by omega)⟩, by omega, (ih (by omega)).mpr fun u v h1 h2 h3 h4 => q u v (by omega) (by omega) (by omega) (by omega)⟩
theorem sh_mono {x : Int64} {n : Nat} (h : gShN x n = 0) : ∀ k, gShN x (n + k) = 0 := by
  intro k
  induction k with
  | zero => exact h
  | succ k ih =>
    rw [← Nat.add_assoc, gShN, ih]
    refine bL_eq0 fun c hc => ?_
    rw [bL_sh hc, bL_0]; rfl
