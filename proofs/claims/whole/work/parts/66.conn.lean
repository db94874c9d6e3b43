/-! cells that hang together -/
def adj (a b : Nat) : Prop := b = a + 8 ∨ a = b + 8 ∨ (b = a + 1 ∧ a % 8 ≠ 7) ∨ (a = b + 1 ∧ b % 8 ≠ 7)
theorem adj_sy {a b : Nat} (h : adj a b) : adj b a := by unfold adj at *; omega
theorem bL_bs {x : Int64} {c : Nat} (hc : c < 64) : nb_bitL (gBs x) c = true ↔ ∃ b, nb_bitL x b = true ∧ adj c b := by
  unfold gBs
  rw [bL_or, bL_or, bL_or, bL_up, bL_dn, bL_lf, bL_rt, decide_eq_true hc, Bool.true_and, Bool.true_and]
  constructor
  · intro q
    rw [Bool.or_eq_true, Bool.or_eq_true, Bool.or_eq_true, Bool.and_eq_true, Bool.and_eq_true, Bool.and_eq_true, decide_eq_true_eq, decide_eq_true_eq, decide_eq_true_eq] at q
    rcases q with ((q | q) | q) | q
    · exact ⟨_, q, Or.inl rfl⟩
    · exact ⟨_, q.2, Or.inr (Or.inl (by omega))⟩
    · exact ⟨_, q.2, Or.inr (Or.inr (Or.inl ⟨rfl, q.1⟩))⟩
    · exact ⟨_, q.2, Or.inr (Or.inr (Or.inr (by omega)))⟩
  · intro ⟨b, hb, ha⟩
    rw [Bool.or_eq_true, Bool.or_eq_true, Bool.or_eq_true, Bool.and_eq_true, Bool.and_eq_true, Bool.and_eq_true, decide_eq_true_eq, decide_eq_true_eq, decide_eq_true_eq]
    rcases ha with q | q | q | q
    · subst q; exact Or.inl (Or.inl (Or.inl hb))
    · subst q; exact Or.inl (Or.inl (Or.inr ⟨by omega, by rw [Nat.add_sub_cancel]; exact hb⟩))
    · obtain ⟨q, q2⟩ := q
      subst q; exact Or.inl (Or.inr ⟨q2, hb⟩)
    · obtain ⟨q, q2⟩ := q
      subst q; exact Or.inr ⟨by omega, by rw [Nat.add_sub_cancel]; exact hb⟩
def clo (f : Nat → Bool) (S : Nat → Prop) : Prop := ∀ a b, S a → f b = true → adj a b → S b
def conn (f : Nat → Bool) (a b : Nat) : Prop := ∀ S : Nat → Prop, S a → clo f S → S b
theorem conn_rf {f : Nat → Bool} {a : Nat} : conn f a a := fun _ h _ => h
theorem conn_tr {f : Nat → Bool} {a b c : Nat} (h1 : conn f a b) (h2 : conn f b c) : conn f a c := fun S hS hc => h2 S (h1 S hS hc) hc
theorem conn_st {f : Nat → Bool} {a b c : Nat} (h1 : conn f a b) (hf : f c = true) (h2 : adj b c) : conn f a c := fun S hS hc => hc b c (h1 S hS hc) hf h2
theorem conn_f {f : Nat → Bool} {a b : Nat} (h : conn f a b) (ha : f a = true) : f b = true := h (fun c => f c = true) ha (fun _ _ _ q _ => q)
theorem conn_sy {f : Nat → Bool} {a b : Nat} (ha : f a = true) (h : conn f a b) : conn f b a := by
  refine (h (fun c => conn f c a ∧ f c = true) ⟨conn_rf, ha⟩ ?_).1
  intro c e hc he hce
  exact ⟨conn_tr (conn_st conn_rf hc.2 (adj_sy hce)) hc.1, he⟩
/-- two grounds that are alike where one of them is closed -/
theorem conn_sub {f g : Nat → Bool} {a b : Nat} (hfg : ∀ c, f c = true → g c = true) (h : conn f a b) : conn g a b := fun S hS hc => h S hS (fun x y q1 q2 q3 => hc x y q1 (hfg y q2) q3)
theorem conn_up {f g : Nat → Bool} {a b : Nat} (hcl : ∀ x y, f x = true → g y = true → adj x y → f y = true) (ha : f a = true) (h : conn g a b) : conn f a b := by
  refine (h (fun c => conn f a c ∧ f c = true) ⟨conn_rf, ha⟩ ?_).1
  intro c e hc he hce
  have := hcl c e hc.2 he hce
  exact ⟨conn_st hc.1 this hce, this⟩
/-! counts -/
theorem cnt_mono {f g : Nat → Bool} : ∀ {n : Nat}, (∀ i, i < n → f i = true → g i = true) → nb_cnt f n ≤ nb_cnt g n := by
  intro n
  induction n with
  | zero => intro _; exact Nat.le_refl _
  | succ n ih =>
    intro h
    rw [nb_cnt, nb_cnt]
    have h1 := ih (fun i hi => h i (by omega))
    have h2 := h n (by omega)
    cases e : f n with
    | false => simp; omega
    | true => rw [h2 e]; simp; omega
theorem cnt_lt {f g : Nat → Bool} : ∀ {n k : Nat}, (∀ i, i < n → f i = true → g i = true) → k < n → f k = false → g k = true → nb_cnt f n < nb_cnt g n := by
  intro n
  induction n with
  | zero => intro k _ h; omega
  | succ n ih =>
    intro k h hk h1 h2
    rw [nb_cnt, nb_cnt]
    by_cases q : k = n
    · subst q
      have := cnt_mono (n := k) (fun i hi => h i (by omega))
      rw [h1, h2]; simp; omega
    · have h3 := ih (k := k) (fun i hi => h i (by omega)) (by omega) h1 h2
      have h4 := h n (by omega)
      cases e : f n with
      | false => simp; omega
      | true => rw [h4 e]; simp; omega
theorem cnt_full {f : Nat → Bool} : ∀ {n : Nat}, n ≤ nb_cnt f n → ∀ i, i < n → f i = true := by
  intro n
  induction n with
  | zero => intro _ i hi; omega
  | succ n ih =>
    intro h i hi
    rw [nb_cnt] at h
    have h1 := nb_cnt_le f n
    have h2 : (f n).toNat ≤ 1 := by cases f n <;> decide
    by_cases q : i = n
    · subst q
      cases e : f i with
      | false => rw [e] at h; simp at h; omega
      | true => rfl
    · exact ih (by omega) i (by omega)
theorem cnt_zero {f : Nat → Bool} : ∀ {n : Nat}, (∀ i, i < n → f i = false) → nb_cnt f n = 0 := by
  intro n
  induction n with
  | zero => intro _; rfl
  | succ n ih => intro h; rw [nb_cnt, ih (fun i hi => h i (by omega)), h n (by omega)]; rfl
theorem cnt_pos {f : Nat → Bool} {n k : Nat} (hk : k < n) (h : f k = true) : 0 < nb_cnt f n := by
  have := cnt_lt (f := fun _ => false) (g := f) (n := n) (k := k) (fun i _ q => by cases q) hk rfl h
  omega
/-! a part -/
theorem lg_eq0 (x y : Int64) : lg_cmp x y = 0 ↔ x = y := by
  unfold lg_cmp
  by_cases h : x = y
  · subst h; simp
  · simp only [h, iff_false]
    split <;> simp
theorem pt_step {x b p : Int64} (hp : p = b ||| (gBs b &&& x)) {c : Nat} : nb_bitL p c = true ↔ nb_bitL b c = true ∨ ((∃ a, nb_bitL b a = true ∧ adj c a) ∧ nb_bitL x c = true) := by
  rw [hp, bL_or, bL_and, Bool.or_eq_true, Bool.and_eq_true]
  constructor
  · rintro (q | q)
    · exact Or.inl q
    · exact Or.inr ⟨(bL_bs (bL_lt q.1)).mp q.1, q.2⟩
  · rintro (q | q)
    · exact Or.inl q
    · exact Or.inr ⟨(bL_bs (bL_lt q.2)).mpr q.1, q.2⟩
theorem s_gr_partOf {E : gk_E} {d : Nat} {h : gk_H} {K : Int64 → gk_H → Prop} {x s : Int64} (hk : ∀ y, (∀ c, nb_bitL y c = true ↔ ∃ a, nb_bitL s a = true ∧ nb_bitL x a = true ∧ conn (nb_bitL x) a c) → K y h) : gk_cl2 E (d + 3) jgr_partOf [.long x, .long s] h K := by
  refine gk_cl_mk (x_gr_partOf ?_)
  rintro _ rfl _ rfl _ rfl
  have fin : ∀ y : Int64, (∀ c, nb_bitL y c = true → ∃ a, nb_bitL s a = true ∧ nb_bitL x a = true ∧ conn (nb_bitL x) a c) → (∀ a, nb_bitL s a = true → nb_bitL x a = true → nb_bitL y a = true) → (∀ a b, nb_bitL y a = true → nb_bitL x b = true → adj a b → nb_bitL y b = true) → K y h := by
    intro y h1 h2 h3
    refine hk y fun c => ⟨h1 c, fun ⟨a, q1, q2, q3⟩ => ?_⟩
    exact q3 (fun b => nb_bitL y b = true) (h2 a q1 q2) (fun a b z1 z2 z3 => h3 a b z1 z2 z3)
  refine lp_up (N := 64) (fun j (z : Int64 × Int64) => g_gr_partOf_11 E (d + 2) (gk_ql K) x z.1 z.2 (nI j) h) (fun j z => ((∀ c, nb_bitL z.1 c = true → ∃ a, nb_bitL s a = true ∧ nb_bitL x a = true ∧ conn (nb_bitL x) a c) ∧ (∀ a, nb_bitL s a = true → nb_bitL x a = true → nb_bitL z.1 a = true)) ∧ ((j = 0 ∧ z.2 = 0) ∨ (1 ≤ j ∧ z.1 = z.2 ||| (gBs z.2 &&& x) ∧ j ≤ nb_onesL z.2))) ?_ ?_ 0 (s &&& x, 0) (by decide) ⟨⟨fun c q => ?_, fun a q1 q2 => ?_⟩, Or.inl ⟨rfl, rfl⟩⟩
  · rintro j ⟨p, b⟩ hj ⟨⟨i1, i2⟩, i3⟩ ih
    refine x_gr_partOf_11 (pk_le 64 j (fun q => by omega) (fun _ => ?_))
    rw [lg_eq0]
    refine ⟨fun q => ?_, fun q => ?_⟩
    · have q : p = b := q
      subst q
      refine fin p i1 i2 fun a c z1 z2 z3 => ?_
      rcases i3 with ⟨-, e⟩ | ⟨-, e, -⟩
      · have e : p = 0 := e
        rw [e, bL_0] at z1; cases z1
      · exact (pt_step e).mpr (Or.inr ⟨⟨a, z1, adj_sy z3⟩, z2⟩)
    · have q : ¬ p = b := q
      intro b' eb
      rw [eb]
      refine s_gr_beside ?_
      rintro _ rfl _ rfl
      rw [nI_1]
      refine ih (p ||| (gBs p &&& x), p) ⟨⟨fun c z => ?_, fun a z1 z2 => ?_⟩, Or.inr ⟨by omega, rfl, ?_⟩⟩
      · rcases (pt_step rfl).mp z with z | ⟨⟨a, z1, z2⟩, z3⟩
        · exact i1 c z
        · obtain ⟨a', y1, y2, y3⟩ := i1 a z1
          exact ⟨a', y1, y2, conn_st y3 z3 (adj_sy z2)⟩
      · exact (pt_step rfl).mpr (Or.inl (i2 a z1 z2))
      · show j + 1 ≤ nb_onesL p
        rcases i3 with ⟨e0, e⟩ | ⟨-, e, e2⟩
        · have e : b = 0 := e
          have : ¬ p = 0 := by rw [← e]; exact q
          obtain ⟨c, hc, z⟩ := bL_ne0 this
          have := cnt_pos hc z
          unfold nb_onesL; omega
        · have e : p = b ||| (gBs b &&& x) := e
          have e2 : j ≤ nb_onesL b := e2
          have sub : ∀ i, i < 64 → nb_bitL b i = true → nb_bitL p i = true := fun i _ z => (pt_step e).mpr (Or.inl z)
          have : ∃ k, k < 64 ∧ nb_bitL b k = false ∧ nb_bitL p k = true := by
            apply Classical.byContradiction
            intro z
            refine q (bL_ext fun c hc => ?_)
            cases e9 : nb_bitL b c with
            | true => exact sub c hc e9
            | false =>
              cases e8 : nb_bitL p c with
              | false => rfl
              | true => exact absurd ⟨c, hc, e9, e8⟩ z
          obtain ⟨k, k1, k2, k3⟩ := this
          have := cnt_lt sub k1 k2 k3
          unfold nb_onesL at *; omega
  · rintro ⟨p, b⟩ ⟨⟨i1, i2⟩, i3⟩
    refine x_gr_partOf_11 (pk_le 64 64 (fun _ => ?_) (fun q => by omega))
    rcases i3 with ⟨e0, -⟩ | ⟨-, e, e2⟩
    · omega
    · refine fin p i1 i2 fun a c z1 z2 z3 => ?_
      have := cnt_full (f := nb_bitL b) (n := 64) e2 c (bL_lt z2)
      exact (pt_step e).mpr (Or.inl this)
  · rw [bL_and, Bool.and_eq_true] at q
    exact ⟨c, q.1, q.2, conn_rf⟩
  · show nb_bitL (s &&& x) a = true
    rw [bL_and, q1, q2]; rfl
