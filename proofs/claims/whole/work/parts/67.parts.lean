/-! the lowest bit; how many parts, how many holes (class) -/
theorem fe {α : Type} {a : α} {P : α → Prop} (h : P a) : ∀ x, x = a → P x := fun _ e => e ▸ h
theorem nb_low2 : ∀ n : Nat, 0 < n → ∃ k, n.testBit k = true ∧ (∀ i, i < k → n.testBit i = false) ∧ ∀ i, (n &&& (n - 1)).testBit i = (n.testBit i && decide (i ≠ k)) := by
  intro n
  induction n using Nat.strongRecOn with
  | ind n ih =>
    intro hn
    by_cases ho : n % 2 = 1
    · refine ⟨0, by simp [Nat.testBit_zero, ho], fun i hi => by omega, fun i => ?_⟩
      cases i with
      | zero =>
        rw [Nat.testBit_and, Nat.testBit_zero, Nat.testBit_zero]
        have : (n - 1) % 2 = 0 := by omega
        simp [this]
      | succ i =>
        rw [Nat.testBit_and, Nat.testBit_succ, Nat.testBit_succ]
        have : (n - 1) / 2 = n / 2 := by omega
        simp [this]
    · obtain ⟨k, h1, h3, h2⟩ := ih (n / 2) (by omega) (by omega)
      refine ⟨k + 1, by rw [Nat.testBit_succ]; exact h1, fun i hi => ?_, fun i => ?_⟩
      · cases i with
        | zero => rw [Nat.testBit_zero]; simp; omega
        | succ i => rw [Nat.testBit_succ]; exact h3 i (by omega)
      · cases i with
        | zero =>
          rw [Nat.testBit_and, Nat.testBit_zero]
          have : n % 2 = 0 := by omega
          simp [this]
        | succ i =>
          rw [Nat.testBit_and, Nat.testBit_succ, Nat.testBit_succ]
          have e : (n - 1) / 2 = n / 2 - 1 := by omega
          rw [e, ← Nat.testBit_and, h2 i]
          simp
theorem bL_low {x : Int64} (hx : ¬ x = 0) : ∃ k, k < 64 ∧ nb_bitL x k = true ∧ (∀ i, i < k → nb_bitL x i = false) ∧ ∀ c, nb_bitL (x &&& -x) c = decide (c = k) := by
  have h0 : 0 < x.toBitVec.toNat := by
    rcases Nat.eq_zero_or_pos x.toBitVec.toNat with h | h
    · exact absurd (Int64.toBitVec_inj.mp (BitVec.eq_of_toNat_eq (by rw [h]; rfl))) hx
    · exact h
  obtain ⟨k, h1, h2, h3⟩ := nb_low2 _ h0
  have hlt := x.toBitVec.isLt
  refine ⟨k, bL_lt (x := x) h1, h1, h2, fun c => ?_⟩
  rw [nb_bitL_toNat]
  have e : (x &&& -x).toBitVec.toNat = x.toBitVec.toNat &&& (2 ^ 64 - ((x.toBitVec.toNat - 1) + 1)) := by
    rw [nb_L_and, Int64.toBitVec_neg, BitVec.toNat_neg]
    congr 1
    omega
  rw [e, Nat.testBit_and, Nat.testBit_two_pow_sub_succ (by omega)]
  have h4 := h3 c
  rw [Nat.testBit_and] at h4
  cases e1 : x.toBitVec.toNat.testBit c with
  | false =>
    have : c ≠ k := fun q => by subst q; rw [h1] at e1; cases e1
    rw [decide_eq_false this]; rfl
  | true =>
    rw [e1, Bool.true_and, Bool.true_and] at h4
    have hc : c < 64 := bL_lt (x := x) e1
    rw [h4, decide_eq_true hc]
    by_cases q : c = k
    · simp [q]
    · simp [q]
theorem cnt_ltk (k : Nat) : ∀ n, nb_cnt (fun i => decide (i < k)) n = if n ≤ k then n else k := by
  intro n
  induction n with
  | zero => simp [nb_cnt]
  | succ n ih =>
    rw [nb_cnt, ih]
    by_cases q : n + 1 ≤ k
    · have a : n ≤ k := by omega
      have b : n < k := by omega
      simp [q, a, b]
    · by_cases q2 : n ≤ k
      · have b : ¬ n < k := by omega
        simp [q, q2, b]; omega
      · have b : ¬ n < k := by omega
        simp [q, q2, b]
theorem s_gr_firstOf {E : gk_E} {d : Nat} {h : gk_H} {K : Int32 → gk_H → Prop} {x : Int64} (h0 : x = 0 → K (-1) h) (h1 : ∀ k, k < 64 → nb_bitL x k = true → (∀ i, i < k → nb_bitL x i = false) → K (nI k) h) : gk_ci E (d + 2) jgr_firstOf [.long x] h K := by
  refine gk_ci_mk (x_gr_firstOf ?_)
  unfold w_gr_firstOf
  rw [nb_cmp0]
  refine ⟨fun q => s_jl_bitCount ?_, h0⟩
  obtain ⟨k, k1, k2, k3, k4⟩ := bL_low q
  have e : nb_onesL ((x &&& -x) - 1) = k := by
    have y : (x &&& -x).toBitVec.toNat = 2 ^ k := Nat.eq_of_testBit_eq fun c => by
      rw [Nat.testBit_two_pow]
      have := k4 c
      rw [nb_bitL_toNat] at this
      rw [this]
      by_cases z : c = k
      · subst z; simp
      · have : ¬ k = c := fun w => z w.symm
        simp [z, this]
    have p : 0 < 2 ^ k := Nat.two_pow_pos k
    have y2 : ((x &&& -x) - 1).toBitVec.toNat = 2 ^ k - 1 := by
      have o : (1 : Int64).toBitVec.toNat = 1 := rfl
      rw [nb_L_sub (by rw [y, o]; omega), y, o]
    unfold nb_onesL
    have : nb_cnt (nb_bitL ((x &&& -x) - 1)) 64 = nb_cnt (fun i => decide (i < k)) 64 := nb_cnt_congr fun i hi => by
      rw [nb_bitL_toNat, y2, Nat.testBit_two_pow_sub_one]
    rw [this, cnt_ltk, if_neg (by omega)]
  rw [e]
  exact h1 k k1 k2 k3
def lead (f : Nat → Bool) (c : Nat) : Prop := f c = true ∧ ∀ b, conn f c b → c ≤ b
noncomputable def leadB (f : Nat → Bool) (c : Nat) : Bool := @decide (lead f c) (Classical.propDecidable _)
theorem leadB_iff {f : Nat → Bool} {c : Nat} : leadB f c = true ↔ lead f c := @decide_eq_true_iff _ (Classical.propDecidable _)
theorem bool_eq {a b : Bool} (h : a = true ↔ b = true) : a = b := by
  cases a <;> cases b <;> simp_all
/-- a set of whole parts taken away: what leads there -/
theorem lead_cut {f g y : Nat → Bool} (hg : ∀ c, g c = true ↔ f c = true ∧ y c = false) (hy : ∀ a b, y a = true → f b = true → adj a b → y b = true) (hyf : ∀ a, y a = true → f a = true) {i : Nat} : lead g i ↔ lead f i ∧ y i = false := by
  have gcl : ∀ a b, g a = true → f b = true → adj a b → g b = true := by
    intro a b h1 h2 h3
    refine (hg b).mpr ⟨h2, ?_⟩
    cases e : y b with
    | false => rfl
    | true =>
      have := hy b a e ((hg a).mp h1).1 (adj_sy h3)
      rw [((hg a).mp h1).2] at this; cases this
  constructor
  · rintro ⟨h1, h2⟩
    have h3 := (hg i).mp h1
    exact ⟨⟨h3.1, fun b hb => h2 b (conn_up gcl h1 hb)⟩, h3.2⟩
  · rintro ⟨⟨h1, h2⟩, h3⟩
    exact ⟨(hg i).mpr ⟨h1, h3⟩, fun b hb => h2 b (conn_sub (fun c hc => ((hg c).mp hc).1) hb)⟩
theorem s_gr_parts {E : gk_E} {d : Nat} {h : gk_H} {K : Int32 → gk_H → Prop} {x : Int64} (hk : K (nI (nb_cnt (leadB (nb_bitL x)) 64)) h) : gk_ci E (d + 4) jgr_parts [.long x] h K := by
  refine gk_ci_mk (x_gr_parts ?_)
  refine fe (fe (fe ?_))
  have zero : nb_cnt (leadB (nb_bitL 0)) 64 = 0 := cnt_zero fun i _ => by
    cases e : leadB (nb_bitL 0) i with
    | false => rfl
    | true => have := (leadB_iff.mp e).1; rw [bL_0] at this; cases this
  refine lp_up (N := 64) (fun j (z : Int64 × Int32) => g_gr_parts_8 E (d + 3) (gk_qi K) z.1 z.2 (nI j) h) (fun j z => ∃ m, z.2 = nI m ∧ m + nb_cnt (leadB (nb_bitL z.1)) 64 = nb_cnt (leadB (nb_bitL x)) 64 ∧ nb_onesL z.1 + j ≤ 64) ?_ ?_ 0 (x, 0) (by decide) ⟨0, rfl, by simp, nb_onesL_le x⟩
  · rintro j ⟨r, p⟩ hj ⟨m, rfl, i2, i3⟩ ih
    have i2 : m + nb_cnt (leadB (nb_bitL r)) 64 = nb_cnt (leadB (nb_bitL x)) 64 := i2
    have i3 : nb_onesL r + j ≤ 64 := i3
    refine x_gr_parts_8 (pk_le 64 j (fun q => by omega) (fun _ => ?_))
    rw [nb_cmp0]
    refine ⟨fun q => ?_, fun q => ?_⟩
    · have q : r = 0 := q
      rw [q, zero, Nat.add_zero] at i2
      show K (nI m) h
      rw [i2]; exact hk
    · have q : ¬ r = 0 := q
      obtain ⟨k, k1, k2, k3, k4⟩ := bL_low q
      refine s_gr_partOf fun y hy => ?_
      rintro _ rfl _ rfl _ rfl
      rw [nI_1, nI_1]
      have hy2 : ∀ c, nb_bitL y c = true ↔ conn (nb_bitL r) k c := by
        intro c
        rw [hy c]
        constructor
        · rintro ⟨a, a1, a2, a3⟩
          rw [k4] at a1
          have : a = k := of_decide_eq_true a1
          subst this; exact a3
        · intro z
          exact ⟨k, by rw [k4]; simp, k2, z⟩
      have ycl : ∀ a b, nb_bitL y a = true → nb_bitL r b = true → adj a b → nb_bitL y b = true := fun a b z1 z2 z3 => (hy2 b).mpr (conn_st ((hy2 a).mp z1) z2 z3)
      have yr : ∀ a, nb_bitL y a = true → nb_bitL r a = true := fun a z => conn_f ((hy2 a).mp z) k2
      have hg : ∀ c, nb_bitL (r &&& (y ^^^ -1)) c = true ↔ nb_bitL r c = true ∧ nb_bitL y c = false := by
        intro c
        rw [bL_and, bL_not, Bool.and_eq_true, Bool.and_eq_true, decide_eq_true_eq]
        constructor
        · rintro ⟨z1, z2, z3⟩; exact ⟨z1, by simpa using z3⟩
        · rintro ⟨z1, z2⟩; exact ⟨z1, bL_lt z1, by rw [z2]; rfl⟩
      have lk : leadB (nb_bitL r) k = true := leadB_iff.mpr ⟨k2, fun b hb => by
        rcases Nat.lt_or_ge b k with z | z
        · have := conn_f hb k2
          rw [k3 b z] at this; cases this
        · exact z⟩
      have cc := nb_cnt_clear (f := leadB (nb_bitL (r &&& (y ^^^ -1)))) (g := leadB (nb_bitL r)) (k := k) (n := 64) (fun i hi => bool_eq (by
        rw [leadB_iff, lead_cut hg ycl yr, Bool.and_eq_true, leadB_iff, decide_eq_true_eq]
        constructor
        · rintro ⟨z1, z2⟩
          refine ⟨z1, fun e => ?_⟩
          subst e
          rw [(hy2 i).mpr conn_rf] at z2; cases z2
        · rintro ⟨z1, z2⟩
          refine ⟨z1, ?_⟩
          cases e : nb_bitL y i with
          | false => rfl
          | true =>
            have w1 := z1.2 k (conn_sy k2 ((hy2 i).mp e))
            have w2 : ¬ i < k := fun w => by have := k3 i w; rw [z1.1] at this; cases this
            exact absurd (by omega) z2)) lk
      rw [if_pos k1] at cc
      refine ih (r &&& (y ^^^ -1), nI (m + 1)) ⟨m + 1, rfl, ?_, ?_⟩
      · show m + 1 + nb_cnt (leadB (nb_bitL (r &&& (y ^^^ -1)))) 64 = _
        omega
      · show nb_onesL (r &&& (y ^^^ -1)) + (j + 1) ≤ 64
        have := cnt_lt (f := nb_bitL (r &&& (y ^^^ -1))) (g := nb_bitL r) (n := 64) (k := k) (fun i _ z => ((hg i).mp z).1) k1 (by
          cases e : nb_bitL (r &&& (y ^^^ -1)) k with
          | false => rfl
          | true =>
            have := ((hg k).mp e).2
            rw [(hy2 k).mpr conn_rf] at this; cases this) k2
        unfold nb_onesL at *; omega
  · rintro ⟨r, p⟩ ⟨m, rfl, i2, i3⟩
    have i2 : m + nb_cnt (leadB (nb_bitL r)) 64 = nb_cnt (leadB (nb_bitL x)) 64 := i2
    have i3 : nb_onesL r + 64 ≤ 64 := i3
    refine x_gr_parts_8 (pk_le 64 64 (fun _ => ?_) (fun q => by omega))
    have : r = 0 := bL_eq0 fun c hc => by
      cases e : nb_bitL r c with
      | false => rfl
      | true => have := cnt_pos hc e; unfold nb_onesL at i3; omega
    rw [this, zero, Nat.add_zero] at i2
    show K (nI m) h
    rw [i2]; exact hk
def bord (c : Nat) : Prop := c / 8 = 0 ∨ c / 8 = 7 ∨ c % 8 = 0 ∨ c % 8 = 7
noncomputable def outB (f : Nat → Bool) (c : Nat) : Bool := @decide (∃ a, bord a ∧ f a = true ∧ conn f a c) (Classical.propDecidable _)
theorem outB_iff {f : Nat → Bool} {c : Nat} : outB f c = true ↔ ∃ a, bord a ∧ f a = true ∧ conn f a c := @decide_eq_true_iff _ (Classical.propDecidable _)
noncomputable def holN (f : Nat → Bool) : Nat := nb_cnt (fun c => leadB f c && !outB f c) 64
theorem s_gr_holes {E : gk_E} {d : Nat} {h : gk_H} {K : Int32 → gk_H → Prop} {g : Int64} (hk : K (nI (holN (nb_bitL (g ^^^ -1)))) h) : gk_ci E (d + 5) jgr_holes [.long g] h K := by
  refine gk_ci_mk (x_gr_holes ?_)
  rintro _ rfl
  refine s_gr_partOf fun y hy => s_gr_parts ?_
  generalize g ^^^ -1 = x at *
  have hy2 : ∀ c, nb_bitL y c = true ↔ outB (nb_bitL x) c = true := by
    intro c
    rw [hy c, outB_iff]
    constructor
    · rintro ⟨a, a1, a2, a3⟩
      refine ⟨a, ?_, a2, a3⟩
      rw [bL_border a (bL_lt a2)] at a1
      unfold bord
      simpa using a1
    · rintro ⟨a, a1, a2, a3⟩
      refine ⟨a, ?_, a2, a3⟩
      rw [bL_border a (bL_lt a2)]
      unfold bord at a1
      simpa using a1
  have ycl : ∀ a b, nb_bitL y a = true → nb_bitL x b = true → adj a b → nb_bitL y b = true := by
    intro a b z1 z2 z3
    obtain ⟨a', w1, w2, w3⟩ := (hy a).mp z1
    exact (hy b).mpr ⟨a', w1, w2, conn_st w3 z2 z3⟩
  have yx : ∀ a, nb_bitL y a = true → nb_bitL x a = true := by
    intro a z
    obtain ⟨a', w1, w2, w3⟩ := (hy a).mp z
    exact conn_f w3 w2
  have hg : ∀ c, nb_bitL (x &&& (y ^^^ -1)) c = true ↔ nb_bitL x c = true ∧ nb_bitL y c = false := by
    intro c
    rw [bL_and, bL_not, Bool.and_eq_true, Bool.and_eq_true, decide_eq_true_eq]
    constructor
    · rintro ⟨z1, z2, z3⟩; exact ⟨z1, by simpa using z3⟩
    · rintro ⟨z1, z2⟩; exact ⟨z1, bL_lt z1, by rw [z2]; rfl⟩
  have e : nb_cnt (leadB (nb_bitL (x &&& (y ^^^ -1)))) 64 = holN (nb_bitL x) := nb_cnt_congr fun i hi => bool_eq (by
    rw [leadB_iff, lead_cut hg ycl yx, Bool.and_eq_true, leadB_iff, Bool.not_eq_true']
    have : nb_bitL y i = outB (nb_bitL x) i := bool_eq (hy2 i)
    rw [this])
  rw [e]
  exact hk
