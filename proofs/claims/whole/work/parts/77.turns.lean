/-! walks: turnings -/
/-- b lies beside a on the way w (0 up, 1 right, 2 down, 3 left) -/
def stp (w a b : Nat) : Prop := (w = 0 ∧ a = b + 8) ∨ (w = 1 ∧ b = a + 1 ∧ a % 8 ≠ 7) ∨ (w = 2 ∧ b = a + 8) ∨ (w = 3 ∧ a = b + 1 ∧ b % 8 ≠ 7)
def lnP (f : Nat → Bool) (U : Nat → Prop) (w t : Nat) : Prop := ∀ S : Nat → Prop, (∀ a, U a → S a) → (∀ a b, S a → stp w a b → f b = true → S b) → S t
theorem ln_in {f : Nat → Bool} {U : Nat → Prop} {w t : Nat} (h : U t) : lnP f U w t := fun _ h1 _ => h1 t h
theorem ln_st {f : Nat → Bool} {U : Nat → Prop} {w a b : Nat} (h : lnP f U w a) (h2 : stp w a b) (h3 : f b = true) : lnP f U w b := fun S h1 h4 => h4 a b (h S h1 h4) h2 h3
/-- cells within n - 1 turnings -/
def UU (f : Nat → Bool) (a : Nat) : Nat → Nat → Prop
  | 0 => fun t => t = a
  | n + 1 => fun t => ∃ w, w < 4 ∧ lnP f (UU f a n) w t
theorem UU_mono {f : Nat → Bool} {a n t : Nat} (h : UU f a n t) : UU f a (n + 1) t := ⟨0, by decide, ln_in h⟩
theorem UU_lt {f : Nat → Bool} {a : Nat} (ha : a < 64) (hf : ∀ c, f c = true → c < 64) : ∀ {n t : Nat}, UU f a n t → t < 64 := by
  intro n
  induction n with
  | zero => intro t h; have h : t = a := h; omega
  | succ n ih =>
    rintro t ⟨w, hw, h⟩
    exact h (fun t => t < 64) (fun a h => ih h) (fun a b _ _ h => hf b h)
noncomputable def uB (f : Nat → Bool) (a n t : Nat) : Bool := @decide (UU f a n t) (Classical.propDecidable _)
theorem uB_iff {f : Nat → Bool} {a n t : Nat} : uB f a n t = true ↔ UU f a n t := @decide_eq_true_iff _ (Classical.propDecidable _)
/-- t is reached with just k turnings -/
def tuD (f : Nat → Bool) (a t k : Nat) : Prop := UU f a (k + 1) t ∧ ∀ i, i < k → ¬ UU f a (i + 1) t
theorem tuD_lt {f : Nat → Bool} {a t k : Nat} (ha : a < 64) (hf : ∀ c, f c = true → c < 64) (h : tuD f a t k) : k ≤ 63 := by
  refine grow (X := fun n t => uB f a (n + 1) t) (fun n t q => uB_iff.mpr (UU_mono (uB_iff.mp q))) (fun n e t _ => ?_) ⟨a, ha, uB_iff.mpr (UU_mono rfl)⟩ (UU_lt ha hf h.1) (uB_iff.mpr h.1) (fun i hi => ?_)
  · have e2 : UU f a (n + 1 + 1) = UU f a (n + 1) := by
      funext t9
      refine propext ⟨fun q => ?_, UU_mono⟩
      have := e t9 (UU_lt ha hf q)
      exact uB_iff.mp (this ▸ uB_iff.mpr q)
    refine bool_eq ?_
    rw [uB_iff, uB_iff]
    show (∃ w, w < 4 ∧ lnP f (UU f a (n + 1 + 1)) w t) ↔ (∃ w, w < 4 ∧ lnP f (UU f a (n + 1)) w t)
    rw [e2]
  · cases e : uB f a (i + 1) t with
    | false => rfl
    | true => exact absurd (uB_iff.mp e) (h.2 i hi)
theorem tuD_u {f : Nat → Bool} {a t k k' : Nat} (h : tuD f a t k) (h' : tuD f a t k') : k = k' := by
  rcases Nat.lt_trichotomy k k' with q | q | q
  · exact absurd h.1 (h'.2 k q)
  · exact q
  · exact absurd h'.1 (h.2 k' q)
/-! a line, class: seven times one step further -/
def mv (w : Nat) (x : Int64) : Int64 := if w = 0 then gUp x else if w = 1 then gRt x else if w = 2 then gDn x else gLf x
theorem bL_mv {w t : Nat} {x : Int64} (hw : w < 4) (ht : t < 64) : nb_bitL (mv w x) t = true ↔ ∃ a, nb_bitL x a = true ∧ stp w a t := by
  have : w = 0 ∨ w = 1 ∨ w = 2 ∨ w = 3 := by omega
  unfold mv
  rcases this with rfl | rfl | rfl | rfl
  · rw [if_pos rfl, bL_up]
    constructor
    · intro q; exact ⟨t + 8, q, by unfold stp; omega⟩
    · rintro ⟨a, a1, a2⟩
      unfold stp at a2
      rw [show t + 8 = a by omega]; exact a1
  · rw [if_neg (by decide), if_pos rfl, bL_rt]
    simp only [Bool.and_eq_true, decide_eq_true_eq]
    constructor
    · rintro ⟨-, q2, q3⟩; exact ⟨t - 1, q3, by unfold stp; omega⟩
    · rintro ⟨a, a1, a2⟩
      unfold stp at a2
      refine ⟨ht, by omega, ?_⟩
      rw [show t - 1 = a by omega]; exact a1
  · rw [if_neg (by decide), if_neg (by decide), if_pos rfl, bL_dn]
    simp only [Bool.and_eq_true, decide_eq_true_eq]
    constructor
    · rintro ⟨-, q2, q3⟩; exact ⟨t - 8, q3, by unfold stp; omega⟩
    · rintro ⟨a, a1, a2⟩
      unfold stp at a2
      refine ⟨ht, by omega, ?_⟩
      rw [show t - 8 = a by omega]; exact a1
  · rw [if_neg (by decide), if_neg (by decide), if_neg (by decide), bL_lf]
    simp only [Bool.and_eq_true, decide_eq_true_eq]
    constructor
    · rintro ⟨q2, q3⟩; exact ⟨t + 1, q3, by unfold stp; omega⟩
    · rintro ⟨a, a1, a2⟩
      unfold stp at a2
      refine ⟨by omega, ?_⟩
      rw [show t + 1 = a by omega]; exact a1
def lnN (w : Nat) (x g : Int64) : Nat → Int64
  | 0 => x
  | n + 1 => lnN w x g n ||| (mv w (lnN w x g n) &&& g)
theorem ln_step {w n t : Nat} {x g : Int64} (hw : w < 4) : nb_bitL (lnN w x g (n + 1)) t = true ↔ nb_bitL (lnN w x g n) t = true ∨ ((∃ a, nb_bitL (lnN w x g n) a = true ∧ stp w a t) ∧ nb_bitL g t = true) := by
  rw [lnN, bL_or, bL_and, Bool.or_eq_true, Bool.and_eq_true]
  constructor
  · rintro (q | q)
    · exact Or.inl q
    · exact Or.inr ⟨(bL_mv hw (bL_lt q.2)).mp q.1, q.2⟩
  · rintro (q | q)
    · exact Or.inl q
    · exact Or.inr ⟨(bL_mv hw (bL_lt q.2)).mpr q.1, q.2⟩
theorem ln_mono {w t : Nat} {x g : Int64} (hw : w < 4) : ∀ {n k : Nat}, nb_bitL (lnN w x g n) t = true → nb_bitL (lnN w x g (n + k)) t = true := by
  intro n k
  induction k with
  | zero => intro h; exact h
  | succ k ih => intro h; exact (ln_step hw).mpr (Or.inl (ih h))
def pot (w t : Nat) : Nat := if w = 0 then t / 8 else if w = 1 then 7 - t % 8 else if w = 2 then 7 - t / 8 else t % 8
theorem pot_st {w a b : Nat} (ha : a < 64) (hb : b < 64) (h : stp w a b) : pot w b + 1 = pot w a := by
  unfold stp at h
  unfold pot
  rcases h with ⟨rfl, h⟩ | ⟨rfl, h⟩ | ⟨rfl, h⟩ | ⟨rfl, h⟩
  · rw [if_pos rfl, if_pos rfl]; omega
  · rw [if_neg (by decide), if_pos rfl, if_neg (by decide), if_pos rfl]; omega
  · rw [if_neg (by decide), if_neg (by decide), if_pos rfl, if_neg (by decide), if_neg (by decide), if_pos rfl]; omega
  · rw [if_neg (by decide), if_neg (by decide), if_neg (by decide), if_neg (by decide), if_neg (by decide), if_neg (by decide)]; omega
theorem pot_le {w t : Nat} (ht : t < 64) : pot w t ≤ 7 := by
  unfold pot
  split
  · omega
  · split
    · omega
    · split <;> omega
theorem ln_pot {w : Nat} {x g : Int64} (hw : w < 4) : ∀ {n t : Nat}, nb_bitL (lnN w x g n) t = true → ∃ k, k ≤ n ∧ nb_bitL (lnN w x g k) t = true ∧ pot w t + k ≤ 7 := by
  intro n
  induction n with
  | zero => intro t h; exact ⟨0, Nat.le_refl _, h, pot_le (bL_lt h)⟩
  | succ n ih =>
    intro t h
    rcases (ln_step hw).mp h with q | ⟨⟨a, a1, a2⟩, q⟩
    · obtain ⟨k, k1, k2, k3⟩ := ih q
      exact ⟨k, by omega, k2, k3⟩
    · obtain ⟨k, k1, k2, k3⟩ := ih a1
      have := pot_st (bL_lt a1) (bL_lt q) a2
      exact ⟨k + 1, by omega, (ln_step hw).mpr (Or.inr ⟨⟨a, k2, a2⟩, q⟩), by omega⟩
theorem ln_7 {w t : Nat} {x g : Int64} (hw : w < 4) : nb_bitL (lnN w x g 7) t = true ↔ lnP (nb_bitL g) (fun a => nb_bitL x a = true) w t := by
  constructor
  · have : ∀ n t, nb_bitL (lnN w x g n) t = true → lnP (nb_bitL g) (fun a => nb_bitL x a = true) w t := by
      intro n
      induction n with
      | zero => intro t h; exact ln_in h
      | succ n ih =>
        intro t h
        rcases (ln_step hw).mp h with q | ⟨⟨a, a1, a2⟩, q⟩
        · exact ih t q
        · exact ln_st (ih a a1) a2 q
    exact this 7 t
  · intro h
    refine h (fun t => nb_bitL (lnN w x g 7) t = true) (fun a q => ?_) (fun a b q1 q2 q3 => ?_)
    · have := ln_mono (n := 0) (k := 7) hw (t := a) (x := x) (g := g) q
      exact this
    · obtain ⟨k, k1, k2, k3⟩ := ln_pot hw q1
      have := pot_st (bL_lt q1) (bL_lt q3) q2
      have := ln_mono (n := k + 1) (k := 6 - k) hw ((ln_step hw).mpr (Or.inr ⟨⟨a, k2, q2⟩, q3⟩))
      rwa [show k + 1 + (6 - k) = 7 by omega] at this
theorem s_gr_straightFrom {E : gk_E} {d : Nat} {h : gk_H} {K : Int64 → gk_H → Prop} {x g : Int64} (hk : ∀ y, (∀ t, nb_bitL y t = true ↔ ∃ w, w < 4 ∧ lnP (nb_bitL g) (fun a => nb_bitL x a = true) w t) → K y h) : gk_cl2 E (d + 2) jgr_straightFrom [.long x, .long g] h K := by
  refine gk_cl_mk (x_gr_straightFrom (fe (fe (fe (fe (fe ?_))))))
  refine lp_up (N := 7) (fun j (_ : Unit) => g_gr_straightFrom_15 E (d + 1) (gk_ql K) g (lnN 0 x g j) (lnN 2 x g j) (lnN 3 x g j) (lnN 1 x g j) (nI (j + 1)) h) (fun _ _ => True) ?_ ?_ 0 () (by decide) trivial
  · intro j _ hj _ ih
    refine x_gr_straightFrom_15 (pk_le 8 (j + 1) (fun q => by omega) (fun _ => s_gr_up (fe (s_gr_down (fe (s_gr_left (fe (s_gr_right (fe (fe ?_))))))))))
    rw [nI_1]
    exact ih () trivial
  · intro _ _
    refine x_gr_straightFrom_15 (pk_le 8 8 (fun _ => hk _ fun t => ?_) (fun q => by omega))
    rw [bL_or, bL_or, bL_or, Bool.or_eq_true, Bool.or_eq_true, Bool.or_eq_true, ln_7 (by decide), ln_7 (by decide), ln_7 (by decide), ln_7 (by decide)]
    constructor
    · rintro (((q | q) | q) | q)
      · exact ⟨0, by decide, q⟩
      · exact ⟨2, by decide, q⟩
      · exact ⟨3, by decide, q⟩
      · exact ⟨1, by decide, q⟩
    · rintro ⟨w, hw, q⟩
      have : w = 0 ∨ w = 1 ∨ w = 2 ∨ w = 3 := by omega
      rcases this with rfl | rfl | rfl | rfl
      · exact Or.inl (Or.inl (Or.inl q))
      · exact Or.inr q
      · exact Or.inl (Or.inl (Or.inr q))
      · exact Or.inl (Or.inr q)
theorem s_gr_fewestTurnings {E : gk_E} {d : Nat} {h : gk_H} {K : Int32 → gk_H → Prop} {g : Int64} {a b : Nat} (ha : a < 64) (hb : b < 64) (k1 : ∀ k, tuD (nb_bitL g) a b k → K (nI k) h) (k0 : (¬ ∃ k, tuD (nb_bitL g) a b k) → K (-1) h) : gk_ci E (d + 3) jgr_fewestTurnings [.long g, .int (nI a), .int (nI b)] h K := by
  refine gk_ci_mk (x_gr_fewestTurnings (s_gr_straightFrom fun y hy => fe (fe ?_)))
  have e0 : (fun a9 => nb_bitL ((1 : Int64) <<< ((nI a).toInt64 &&& 63)) a9 = true) = UU (nb_bitL g) a 0 := by
    funext a9
    rw [bL_one ha]
    exact propext decide_eq_true_iff
  rw [e0] at hy
  refine lp_up (N := 64) (fun j (y : Int64) => g_gr_fewestTurnings_12 E (d + 2) (gk_qi K) g (nI b) y (nI j) h) (fun j y => (∀ t, nb_bitL y t = true ↔ UU (nb_bitL g) a (j + 1) t) ∧ ∀ i, i < j → ¬ UU (nb_bitL g) a (i + 1) b) ?_ ?_ 0 y (by decide) ⟨hy, fun i q => by omega⟩
  · clear hy y
    rintro j y hj ⟨i1, i2⟩ ih
    refine x_gr_fewestTurnings_12 (pk_le 64 j (fun q => by omega) (fun _ => s_gr_isDry hb (bsel (fun q => s_gr_straightFrom fun z hz => fe (fe ?_)) (fun q => k1 j ⟨(i1 b).mp q, i2⟩))))
    rw [nI_1]
    have e1 : (fun a9 => nb_bitL y a9 = true) = UU (nb_bitL g) a (j + 1) := funext fun t => propext (i1 t)
    rw [e1] at hz
    refine ih z ⟨hz, fun i h9 => ?_⟩
    by_cases z9 : i = j
    · rw [z9]
      intro w
      rw [(i1 b).mpr w] at q; cases q
    · exact i2 i (by omega)
  · rintro y ⟨i1, i2⟩
    refine x_gr_fewestTurnings_12 (pk_le 64 64 (fun _ => k0 ?_) (fun q => by omega))
    rintro ⟨k, hk⟩
    exact i2 k (by have := tuD_lt ha (fun c => bL_lt) hk; omega) hk.1
