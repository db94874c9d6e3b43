/-! sums -/
def sumN (g : Int64) (k : Nat) : Nat := if k < 8 then sm (fun i => (nb_bitL g (8 * k + i)).toNat) 8 else sm (fun r => (nb_bitL g (8 * r + (k - 8))).toNat) 8
theorem sm_one (x k : Nat) : ∀ n, sm (fun r => if r = k then x else 0) n = if k < n then x else 0 := by
  intro n
  induction n with
  | zero => rfl
  | succ n ih =>
    rw [sm, ih]
    by_cases q : n = k
    · subst q
      rw [if_neg (by omega), if_pos rfl, if_pos (by omega)]; omega
    · rw [if_neg q]
      by_cases z : k < n
      · rw [if_pos z, if_pos (by omega), Nat.add_zero]
      · rw [if_neg z, if_neg (by omega)]
theorem sumN_le (g : Int64) (k : Nat) : sumN g k ≤ 8 := by
  have b : ∀ c : Bool, c.toNat ≤ 1 := by intro c; cases c <;> decide
  unfold sumN
  split
  · have := sm_le (f := fun i => (nb_bitL g (8 * k + i)).toNat) (b := 1) (fun i => b _) 8; omega
  · have := sm_le (f := fun r => (nb_bitL g (8 * r + (k - 8))).toNat) (b := 1) (fun i => b _) 8; omega
theorem sum_c {g y : Int64} {k : Nat} (hk : k < 16) (hy : ∀ t, t < 64 → nb_bitL y t = if k < 8 then decide (t / 8 = k) else decide (t % 8 = k - 8)) : nb_onesL (g &&& y) = sumN g k := by
  rw [onesL_8]
  unfold sumN
  by_cases q : k < 8
  · rw [if_pos q]
    have : sm (fun r => sm (fun i => (nb_bitL (g &&& y) (8 * r + i)).toNat) 8) 8 = sm (fun r => if r = k then sm (fun i => (nb_bitL g (8 * k + i)).toNat) 8 else 0) 8 := sm_congr fun r hr => by
      by_cases z : r = k
      · rw [if_pos z]
        refine sm_congr fun i hi => ?_
        rw [bL_and, hy _ (by omega), if_pos q, decide_eq_true (by omega), Bool.and_true, z]
      · rw [if_neg z]
        refine sm_0 fun i hi => ?_
        rw [bL_and, hy _ (by omega), if_pos q, decide_eq_false (by omega), Bool.and_false]; rfl
    rw [this, sm_one, if_pos q]
  · rw [if_neg q]
    refine sm_congr fun r hr => ?_
    have : sm (fun i => (nb_bitL (g &&& y) (8 * r + i)).toNat) 8 = sm (fun i => if i = k - 8 then (nb_bitL g (8 * r + (k - 8))).toNat else 0) 8 := sm_congr fun i hi => by
      rw [bL_and, hy _ (by omega), if_neg q]
      by_cases z : i = k - 8
      · rw [if_pos z, decide_eq_true (by omega), Bool.and_true, z]
      · rw [if_neg z, decide_eq_false (by omega), Bool.and_false]; rfl
    rw [this, sm_one, if_pos (by omega)]
theorem and1_v (y : Int32) : y &&& 1 = nb_b (nb_bit y 0) := by
  refine bI_ext fun c hc => ?_
  rw [bI_and, bI_1]
  by_cases z : c = 0
  · subst z
    cases nb_bit y 0
    · rw [show nb_b false = 0 from rfl, bI_0]; rfl
    · rw [show nb_b true = 1 from rfl, bI_1]; rfl
  · rw [decide_eq_false z, Bool.and_false]
    cases nb_bit y 0
    · rw [show nb_b false = 0 from rfl, bI_0]
    · rw [show nb_b true = 1 from rfl, bI_1, decide_eq_false z]
theorem nb_bi {a b : Bool} : nb_b a = nb_b b ↔ a = b := by cases a <;> cases b <;> decide
section SU1
variable {E : gk_E} {d : Nat} {h : gk_H} {K : Int32 → gk_H → Prop}
theorem s_gr_sumOf {g : Int64} {k : Nat} (hk : k < 16) (kk : K (nI (sumN g k)) h) : gk_ci E (d + 2) jgr_sumOf [.long g, .int (nI k)] h K := by
  refine gk_ci_mk (x_gr_sumOf (pk_le 8 k (fun q => fe (s_jl_bitCount ?_)) (fun q => fe (s_jl_bitCount ?_))))
  · rw [show nI k - 8 = nI (k - 8) from pk_sub (b := 8) q, sum_c (k := k) hk (fun t ht => ?_)]
    · exact kk
    · rw [bL_shl _ (by omega), decide_eq_true ht, Bool.true_and, if_neg (by omega)]
      by_cases z : k - 8 ≤ t
      · rw [decide_eq_true z, Bool.true_and, bL_col0 _ (by omega)]
        by_cases w : t % 8 = k - 8
        · rw [decide_eq_true w, decide_eq_true (by omega)]
        · rw [decide_eq_false w, decide_eq_false (by omega)]
      · rw [decide_eq_false z, decide_eq_false (by omega)]; rfl
  · rw [show (8 : Int32) * nI k = nI (8 * k) from nI_mulN 8 k, sum_c (k := k) hk (fun t ht => ?_)]
    · exact kk
    · rw [bL_shl _ (by omega), decide_eq_true ht, Bool.true_and, if_pos q]
      by_cases z : 8 * k ≤ t
      · rw [decide_eq_true z, Bool.true_and, bL_row0 _ (by omega)]
        by_cases w : t / 8 = k
        · rw [decide_eq_true w, decide_eq_true (by omega)]
        · rw [decide_eq_false w, decide_eq_false (by omega)]
      · rw [decide_eq_false z, decide_eq_false (by omega)]; rfl
theorem s_mo_sumOf {p : Nat} {g : Int64} {k : Nat} (hp : p < 10) (hg : MG h p g) (hk : k < 16) (kk : K (nI (sumN g k)) h) : gk_ci E (d + 3) jmo_sumOf [.ref 112, .int (nI p), .int (nI k)] h K := by
  unfold sumN at kk
  refine gk_ci_mk (x_mo_sumOf (pk_le 8 k (fun q => fe (fe ?_)) (fun q => s_mo_rowAt ⟨vp_in_nI (by omega) (by decide), ?_⟩)))
  · rw [if_neg (by omega)] at kk
    refine lp_up (N := 8) (fun r (s : Int32) => g_mo_sumOf_27 E (d + 2) (gk_qi K) (nI p) (nI k) s (nI r) h) (fun r s => s = nI (sm (fun r => (nb_bitL g (8 * r + (k - 8))).toNat) r)) ?_ ?_ 0 0 (by decide) rfl
    · rintro r s hr rfl ih
      refine x_mo_sumOf_27 (pk_le 8 r (fun q => by omega) (fun _ => ?_))
      rw [show nI k - 8 = nI (k - 8) from pk_sub (b := 8) q]
      refine s_mo_isDry (b := nb_bitL g (8 * r + (k - 8))) hp hg (Or.inl ⟨r, k - 8, hr, by omega, rfl, rfl, rfl⟩) (bsel (fun z => fe ?_) (fun z => fe (fe ?_)))
      · rw [nI_1]
        refine ih _ ?_
        rw [sm, z]; rfl
      · rw [nI_1, nI_1]
        refine ih _ ?_
        rw [sm, z]; rfl
    · rintro s rfl
      exact x_mo_sumOf_27 (pk_le 8 8 (fun _ => kk) (fun q => by omega))
  · rw [if_pos q] at kk
    rw [nI_clamp (by omega), hg k q]
    refine s_mo_onesOf ?_
    rw [lr_ones]; exact kk
theorem s_gr_hasSameSums {a b : Int64} (k1 : (∀ k, k < 16 → sumN a k = sumN b k) → K 1 h) (k0 : (¬ ∀ k, k < 16 → sumN a k = sumN b k) → K 0 h) : gk_ci E (d + 3) jgr_hasSameSums [.long a, .long b] h K := by
  refine gk_ci_mk (x_gr_hasSameSums (fe ?_))
  refine lp_up (N := 16) (fun k (_ : Unit) => g_gr_hasSameSums_3 E (d + 2) (gk_qi K) a b (nI k) h) (fun k _ => ∀ i, i < k → sumN a i = sumN b i) ?_ ?_ 0 () (by decide) (fun i q => by omega)
  · intro k _ hk hi ih
    have l1 := sumN_le a k
    have l2 := sumN_le b k
    refine x_gr_hasSameSums_3 (pk_le 16 k (fun q => by omega) (fun _ => s_gr_sumOf hk (s_gr_sumOf hk (pk_eq (sumN a k) (sumN b k) (fun q => fe ?_) (fun q => ⟨Or.inl rfl, k0 (fun z => q (z k hk))⟩)))))
    rw [nI_1]
    refine ih () fun i h9 => ?_
    by_cases z : i = k
    · rw [z]; exact q
    · exact hi i (by omega)
  · intro _ hi
    exact x_gr_hasSameSums_3 (pk_le 16 16 (fun _ => ⟨Or.inr rfl, k1 hi⟩) (fun q => by omega))
theorem s_mo_areLike {p q : Nat} {a b : Int64} (hp : p < 10) (hq : q < 10) (ha : MG h p a) (hb : MG h q b) (k1 : (∀ k, k < 16 → sumN a k = sumN b k) → K 1 h) (k0 : (¬ ∀ k, k < 16 → sumN a k = sumN b k) → K 0 h) : gk_ci E (d + 4) jmo_areLike [.ref 112, .int (nI p), .int (nI q)] h K := by
  refine gk_ci_mk (x_mo_areLike (fe ?_))
  refine lp_up (N := 16) (fun k (_ : Unit) => g_mo_areLike_2 E (d + 3) (gk_qi K) (nI p) (nI q) (nI k) h) (fun k _ => ∀ i, i < k → sumN a i = sumN b i) ?_ ?_ 0 () (by decide) (fun i q => by omega)
  · intro k _ hk hi ih
    have l1 := sumN_le a k
    have l2 := sumN_le b k
    refine x_mo_areLike_2 (pk_le 16 k (fun q => by omega) (fun _ => s_mo_sumOf hp ha hk (s_mo_sumOf hq hb hk (pk_eq (sumN a k) (sumN b k) (fun q => fe ?_) (fun q => ⟨Or.inl rfl, k0 (fun z => q (z k hk))⟩)))))
    rw [nI_1]
    refine ih () fun i h9 => ?_
    by_cases z : i = k
    · rw [z]; exact q
    · exact hi i (by omega)
  · intro _ hi
    exact x_mo_areLike_2 (pk_le 16 16 (fun _ => ⟨Or.inr rfl, k1 hi⟩) (fun q => by omega))
/-- a switch at rows r, s and columns j / 8, j % 8 -/
def swC (g : Int64) (r s j : Nat) : Prop := j / 8 < j % 8 ∧ nb_bitL g (8 * r + j / 8) ≠ nb_bitL g (8 * r + j % 8) ∧ nb_bitL g (8 * r + j / 8) = nb_bitL g (8 * s + j % 8) ∧ nb_bitL g (8 * r + j % 8) = nb_bitL g (8 * s + j / 8)
def swP (g : Int64) (k : Nat) : Prop := k / 512 < k / 64 % 8 ∧ swC g (k / 512) (k / 64 % 8) (k % 64)
theorem s_gr_rowOf {g : Int64} {r : Nat} (hr : r < 8) (hk : K (lr g r) h) : gk_ci E (d + 1) jgr_rowOf [.long g, .int (nI r)] h K := by
  refine gk_ci_mk (x_gr_rowOf ?_)
  show K _ h
  have e : (((g.toUInt64 >>> (((8 : Int32) * nI r).toInt64.toUInt64 &&& Int64.toUInt64 63)).toInt64).toInt32) &&& (255 : Int32) = lr g r := by
    rw [show (8 : Int32) * nI r = nI (8 * r) from nI_mulN 8 r, pk_and _ (m := 255) 8 (by decide +kernel)]
    unfold lr
    congr 1
    have e9 : ∀ x : Int64, x.toInt32.toBitVec.toNat = x.toBitVec.toNat % 2 ^ 32 := by
      intro x
      show (x.toBitVec.signExtend 32).toNat = _
      rw [BitVec.signExtend_eq_setWidth_of_le _ (by omega), BitVec.toNat_setWidth]
    rw [e9, nb_L_shr g (by omega)]
    omega
  rw [e]; exact hk
theorem s_gr_switchColumns {g : Int64} {r s : Nat} (hr : r < 8) (hs : s < 8) (k1 : ∀ j, j < 64 → swC g r s j → (∀ i, i < j → ¬ swC g r s i) → K (nI (10 * (j / 8) + j % 8)) h) (k0 : (∀ j, j < 64 → ¬ swC g r s j) → K (-1) h) : gk_ci E (d + 1) jgr_switchColumns [.int (lr g r), .int (lr g s)] h K := by
  refine gk_ci_mk (x_gr_switchColumns (fe (fe ?_)))
  refine lp_up (N := 8) (fun c (_ : Unit) => g_gr_switchColumns_6 E d (gk_qi K) (lr g r) (lr g r ^^^ lr g s) (nI c) h) (fun c _ => ∀ i, i < 8 * c → ¬ swC g r s i) ?_ ?_ 0 () (by decide) (fun i q => by omega)
  · intro c _ hc hi ih
    refine x_gr_switchColumns_6 (pk_le 8 c (fun q => by omega) (fun _ => fe ?_))
    rw [nI_1]
    refine lp_up (N := 8) (fun e (_ : Unit) => g_gr_switchColumns_17 E d (gk_qi K) (lr g r) (lr g r ^^^ lr g s) (nI c) (nI e) h) (fun e _ => c < e ∧ ∀ i, i < 8 * c + e → ¬ swC g r s i) ?_ ?_ (c + 1) () (by omega) ⟨by omega, fun i h9 => ?_⟩
    · rintro e _ he ⟨hce, hj⟩ ihe
      have go : ¬ swC g r s (8 * c + e) → ∀ y : Int32, y = nI e + 1 → g_gr_switchColumns_17 E d (gk_qi K) (lr g r) (lr g r ^^^ lr g s) (nI c) y h := by
        rintro q _ rfl
        rw [nI_1]
        refine ihe () ⟨by omega, fun i h9 => ?_⟩
        by_cases z : i = 8 * c + e
        · rw [z]; exact q
        · exact hj i (by omega)
      have d1 : (8 * c + e) / 8 = c := by omega
      have d2 : (8 * c + e) % 8 = e := by omega
      have bx : ∀ j, j < 8 → nb_bit (lr g r ^^^ lr g s) j = (nb_bitL g (8 * r + j) ^^ nb_bitL g (8 * s + j)) := by
        intro j hj
        rw [bI_xor, lr_bit, lr_bit, decide_eq_true hj, Bool.true_and, Bool.true_and]
      have c1 : ((lr g r ^^^ lr g s) >>> (nI c &&& 31) &&& (lr g r ^^^ lr g s) >>> (nI e &&& 31)) &&& 1 = 0 ↔ ¬ (nb_bitL g (8 * r + c) ≠ nb_bitL g (8 * s + c) ∧ nb_bitL g (8 * r + e) ≠ nb_bitL g (8 * s + e)) := by
        rw [and1_v, bI_and, bI_sshr _ (by omega) (by omega), bI_sshr _ (by omega) (by omega), Nat.zero_add, Nat.zero_add, bx c hc, bx e he, nb_b0]
        cases nb_bitL g (8 * r + c) <;> cases nb_bitL g (8 * s + c) <;> cases nb_bitL g (8 * r + e) <;> cases nb_bitL g (8 * s + e) <;> decide
      have c2 : (lr g r >>> (nI c &&& 31)) &&& 1 = (lr g r >>> (nI e &&& 31)) &&& 1 ↔ nb_bitL g (8 * r + c) = nb_bitL g (8 * r + e) := by
        rw [and1_v, and1_v, bI_sshr _ (by omega) (by omega), bI_sshr _ (by omega) (by omega), Nat.zero_add, Nat.zero_add, lr_bit, lr_bit, decide_eq_true hc, decide_eq_true he, Bool.true_and, Bool.true_and, nb_bi]
      have key : swC g r s (8 * c + e) ↔ (nb_bitL g (8 * r + c) ≠ nb_bitL g (8 * s + c) ∧ nb_bitL g (8 * r + e) ≠ nb_bitL g (8 * s + e)) ∧ nb_bitL g (8 * r + c) ≠ nb_bitL g (8 * r + e) := by
        unfold swC
        rw [d1, d2]
        have : (c < e) = True := eq_true hce
        rw [this]
        cases nb_bitL g (8 * r + c) <;> cases nb_bitL g (8 * s + c) <;> cases nb_bitL g (8 * r + e) <;> cases nb_bitL g (8 * s + e) <;> decide
      refine x_gr_switchColumns_17 (pk_le 8 e (fun q => by omega) (fun _ => ?_))
      rw [c1, c2]
      refine ⟨fun q => fe (yT rfl (go (fun z => q (key.mp z).1))), fun q => fe (yF (by decide) ⟨fun q2 => go (fun z => (key.mp z).2 q2), fun q2 => ?_⟩)⟩
      have hit : swC g r s (8 * c + e) := key.mpr ⟨Classical.byContradiction q, q2⟩
      have kk := k1 (8 * c + e) (by omega) hit hj
      rw [d1, d2] at kk
      show K (nI 10 * nI c + nI e) h
      rw [nI_mulN, nI_add]; exact kk
    · rintro _ ⟨-, hj⟩
      refine x_gr_switchColumns_17 (pk_le 8 8 (fun _ => fe ?_) (fun q => by omega))
      rw [nI_1]
      exact ih () fun i h9 => hj i (by omega)
    · by_cases z : i < 8 * c
      · exact hi i z
      · intro w
        unfold swC at w
        omega
  · intro _ hi
    exact x_gr_switchColumns_6 (pk_le 8 8 (fun _ => k0 (fun j hj => hi j (by omega))) (fun q => by omega))
theorem s_gr_firstSwitch {g : Int64} (k1 : ∀ k, k < 4096 → swP g k → (∀ i, i < k → ¬ swP g i) → K (nI (1000 * (k / 512) + 100 * (k / 64 % 8) + 10 * (k / 8 % 8) + k % 8)) h) (k0 : (∀ k, k < 4096 → ¬ swP g k) → K (-1) h) : gk_ci E (d + 2) jgr_firstSwitch [.long g] h K := by
  refine gk_ci_mk (x_gr_firstSwitch (fe ?_))
  refine lp_up (N := 8) (fun r (_ : Unit) => g_gr_firstSwitch_2 E (d + 1) (gk_qi K) g (nI r) h) (fun r _ => ∀ i, i < 512 * r → ¬ swP g i) ?_ ?_ 0 () (by decide) (fun i q => by omega)
  · intro r _ hr hi ih
    refine x_gr_firstSwitch_2 (pk_le 8 r (fun q => by omega) (fun _ => fe ?_))
    rw [nI_1]
    refine lp_up (N := 8) (fun s (_ : Unit) => g_gr_firstSwitch_12 E (d + 1) (gk_qi K) g (nI r) (nI s) h) (fun s _ => r < s ∧ ∀ i, i < 512 * r + 64 * s → ¬ swP g i) ?_ ?_ (r + 1) () (by omega) ⟨by omega, fun i h9 => ?_⟩
    · rintro s _ hs ⟨hrs, hj⟩ ihs
      have sp : ∀ j, j < 64 → (swP g (512 * r + 64 * s + j) ↔ swC g r s j) := by
        intro j hj
        unfold swP
        rw [show (512 * r + 64 * s + j) / 512 = r by omega, show (512 * r + 64 * s + j) / 64 % 8 = s by omega, show (512 * r + 64 * s + j) % 64 = j by omega]
        exact ⟨fun q => q.2, fun q => ⟨hrs, q⟩⟩
      refine x_gr_firstSwitch_12 (pk_le 8 s (fun q => by omega) (fun _ => s_gr_rowOf hr (s_gr_rowOf hs (s_gr_switchColumns hr hs (fun j j1 j2 j3 => fe (yF ?_ ?_)) (fun jn => fe (yT rfl (fe ?_)))))))
      · intro q
        have := nI_pos (n := 10 * (j / 8) + j % 8) (by omega)
        rw [q] at this; exact absurd (by decide) this
      · have kk := k1 (512 * r + 64 * s + j) (by omega) ((sp j j1).mpr j2) (fun i h9 => by
          by_cases z : i < 512 * r + 64 * s
          · exact hj i z
          · have := (not_congr (sp (i - (512 * r + 64 * s)) (by omega))).mpr (j3 _ (by omega))
            rwa [show 512 * r + 64 * s + (i - (512 * r + 64 * s)) = i by omega] at this)
        rw [show (512 * r + 64 * s + j) / 512 = r by omega, show (512 * r + 64 * s + j) / 64 % 8 = s by omega, show (512 * r + 64 * s + j) / 8 % 8 = j / 8 by omega, show (512 * r + 64 * s + j) % 8 = j % 8 by omega] at kk
        show K (nI 1000 * nI r + nI 100 * nI s + nI (10 * (j / 8) + j % 8)) h
        rw [nI_mulN, nI_mulN, nI_add, nI_add, ← Nat.add_assoc]; exact kk
      · rw [nI_1]
        refine ihs () ⟨by omega, fun i h9 => ?_⟩
        by_cases z : i < 512 * r + 64 * s
        · exact hj i z
        · have := (not_congr (sp (i - (512 * r + 64 * s)) (by omega))).mpr (jn _ (by omega))
          rwa [show 512 * r + 64 * s + (i - (512 * r + 64 * s)) = i by omega] at this
    · rintro _ ⟨-, hj⟩
      refine x_gr_firstSwitch_12 (pk_le 8 8 (fun _ => fe ?_) (fun q => by omega))
      rw [nI_1]
      exact ih () fun i h9 => hj i (by omega)
    · by_cases z : i < 512 * r
      · exact hi i z
      · intro w
        have := w.1
        omega
  · intro _ hi
    exact x_gr_firstSwitch_2 (pk_le 8 8 (fun _ => k0 (fun j hj => hi j (by omega))) (fun q => by omega))
theorem s_mo_switchOf {p : Nat} {g : Int64} (hp : p < 10) (hg : MG h p g) (k1 : ∀ k, k < 4096 → swP g k → (∀ i, i < k → ¬ swP g i) → K (nI (1000 * (k / 512) + 100 * (k / 64 % 8) + 10 * (k / 8 % 8) + k % 8)) h) (k0 : (∀ k, k < 4096 → ¬ swP g k) → K (-1) h) : gk_ci E (d + 3) jmo_switchOf [.ref 112, .int (nI p)] h K := by
  refine gk_ci_mk (x_mo_switchOf (fe ?_))
  refine lp_up (N := 4096) (fun k (_ : Unit) => g_mo_switchOf_2 E (d + 2) (gk_qi K) (nI p) (nI k) h) (fun k _ => ∀ i, i < k → ¬ swP g i) ?_ ?_ 0 () (by decide) (fun i q => by omega)
  · intro k _ hk hi ih
    have go : ¬ swP g k → ∀ y : Int32, y = nI k + 1 → g_mo_switchOf_2 E (d + 2) (gk_qi K) (nI p) y h := by
      rintro q _ rfl
      rw [nI_1]
      refine ih () fun i h9 => ?_
      by_cases z : i = k
      · rw [z]; exact q
      · exact hi i (by omega)
    have e1 : nI k / 512 = nI (k / 512) := pk_div (d := 512) (by omega) (by omega) (by omega)
    have e2 : nI k / 64 = nI (k / 64) := pk_div (d := 64) (by omega) (by omega) (by omega)
    have e3 : nI k / 8 = nI (k / 8) := pk_div (d := 8) (by omega) (by omega) (by omega)
    have e4 : nI (k / 64) - nI (k / 64) / 8 * 8 = nI (k / 64 % 8) := pk_rem (d := 8) (by omega) (by omega) (by omega)
    have e5 : nI (k / 8) - nI (k / 8) / 8 * 8 = nI (k / 8 % 8) := pk_rem (d := 8) (by omega) (by omega) (by omega)
    have e6 : nI k - nI (k / 8) * 8 = nI (k % 8) := by
      have := pk_rem (a := k) (d := 8) (by omega) (by omega) (by omega)
      rw [show nI 8 = 8 from rfl, e3] at this; exact this
    refine x_mo_switchOf_2 (pk_le 4096 k (fun q => by omega) (fun _ => ?_))
    rw [e1, e2, e3, e4, e5, e6]
    refine ⟨by decide, fe ⟨by decide, by decide, fe ⟨by decide, by decide, fe ⟨by decide, fe ?_⟩⟩⟩⟩
    have sw : swP g k ↔ k / 512 < k / 64 % 8 ∧ k / 8 % 8 < k % 8 ∧ nb_bitL g (8 * (k / 512) + k / 8 % 8) ≠ nb_bitL g (8 * (k / 512) + k % 8) ∧ nb_bitL g (8 * (k / 512) + k / 8 % 8) = nb_bitL g (8 * (k / 64 % 8) + k % 8) ∧ nb_bitL g (8 * (k / 512) + k % 8) = nb_bitL g (8 * (k / 64 % 8) + k / 8 % 8) := by
      unfold swP swC
      rw [show k % 64 / 8 = k / 8 % 8 by omega, show k % 64 % 8 = k % 8 by omega]
    have dr : ∀ {K : Int32 → gk_H → Prop} (i j : Nat), i < 8 → j < 8 → K (nb_b (nb_bitL g (8 * i + j))) h → gk_ci E (d + 2) jmo_isDry [.ref 112, .int (nI p), .int (nI i), .int (nI j)] h K := fun i j hi hj hK => s_mo_isDry hp hg (Or.inl ⟨i, j, hi, hj, rfl, rfl, rfl⟩) hK
    refine pk_le (k / 64 % 8) (k / 512) (fun q => go (fun z => by have := (sw.mp z).1; omega)) (fun q => pk_le (k % 8) (k / 8 % 8) (fun q2 => go (fun z => by have := (sw.mp z).2.1; omega)) (fun q2 => dr _ _ (by omega) (by omega) (dr _ _ (by omega) (by omega) ?_)))
    rw [nb_bi]
    refine ⟨fun q3 => dr _ _ (by omega) (by omega) (dr _ _ (by omega) (by omega) ?_), fun q3 => go (fun z => (sw.mp z).2.2.1 q3)⟩
    rw [nb_bi]
    refine ⟨fun q4 => go (fun z => q4 (sw.mp z).2.2.2.1), fun q4 => dr _ _ (by omega) (by omega) (dr _ _ (by omega) (by omega) ?_)⟩
    rw [nb_bi]
    refine ⟨fun q5 => go (fun z => q5 (sw.mp z).2.2.2.2), fun q5 => ?_⟩
    show K (nI 1000 * nI (k / 512) + nI 100 * nI (k / 64 % 8) + nI 10 * nI (k / 8 % 8) + nI (k % 8)) h
    rw [nI_mulN, nI_mulN, nI_mulN, nI_add, nI_add, nI_add]
    exact k1 k hk (sw.mpr ⟨q, q2, q3, q4, q5⟩) hi
  · intro _ hi
    exact x_mo_switchOf_2 (pk_le 4096 4096 (fun _ => k0 hi) (fun q => by omega))
end SU1
theorem lc_sums {E : gk_E} {d : Nat} (a0 a1 : Int32) : lc_ok E (d + 6) InvX jdp_sums jmo_sums [.int a0, .int a1] := by
  refine lc_q fun n w T X hn hw0 hgw hT => ?_
  by_cases ha : ∃ q, q < n ∧ a0 = nI q
  · obtain ⟨p, hp, rfl⟩ := ha
    by_cases hin : (0 : Int32) ≤ a1 ∧ a1 ≤ 15
    · obtain ⟨k, hk, rfl⟩ := of05 (N := 15) (by decide) hin
      refine ⟨nI (sumN (w.2.1 p) k), fun h K v kk => ?_, fun h K v kk => ?_⟩
      · refine gk_ci_mk (x_dp_sums (s_wh1 hn (Vw_n v) hp (zF (by decide) ⟨vp_in_nI (by omega) (by decide), ?_⟩)))
        rw [nI_clamp (by omega), Vw_d v (by omega)]
        exact fe (s_wi1 hin (yF (by decide) (s_gr_sumOf (by omega) (kk h Qs_rf))))
      · have v2 := Vw_Qs (Qs_t (x := 0)) v
        exact gk_ci_mk (x_mo_sums (s_mp1 hn v2.1.2.2 hp (zF (by decide) (s_in1 hin (yF (by decide) (s_mo_sumOf (by omega) (Vw_mp v2 (by omega)).2.2.2.2 (by omega) (kk _ Qs_t)))))))
    · by_cases h16 : a1 = 16
      · have hex : ∃ r : Int32, (∀ k, k < 4096 → swP (w.2.1 p) k → (∀ i, i < k → ¬ swP (w.2.1 p) i) → nI (1000 * (k / 512) + 100 * (k / 64 % 8) + 10 * (k / 8 % 8) + k % 8) = r) ∧ ((∀ k, k < 4096 → ¬ swP (w.2.1 p) k) → -1 = r) := by
          by_cases z : ∃ k, k < 4096 ∧ swP (w.2.1 p) k
          · obtain ⟨k, ⟨c1, c2⟩, c3⟩ := pk_least (fun k => k < 4096 ∧ swP (w.2.1 p) k) z
            refine ⟨nI (1000 * (k / 512) + 100 * (k / 64 % 8) + 10 * (k / 8 % 8) + k % 8), fun k' x1 x2 x3 => ?_, fun y => absurd c2 (y k c1)⟩
            · have : k' = k := by
                rcases Nat.lt_trichotomy k' k with y | y | y
                · exact absurd ⟨x1, x2⟩ (c3 k' y)
                · exact y
                · exact absurd c2 (x3 k y)
              rw [this]
          · exact ⟨-1, fun k x1 x2 _ => absurd ⟨k, x1, x2⟩ z, fun _ => rfl⟩
        obtain ⟨r, r1, r2⟩ := hex
        refine ⟨r, fun h K v kk => ?_, fun h K v kk => ?_⟩
        · refine gk_ci_mk (x_dp_sums (s_wh1 hn (Vw_n v) hp (zF (by decide) ⟨vp_in_nI (by omega) (by decide), ?_⟩)))
          rw [nI_clamp (by omega), Vw_d v (by omega)]
          exact fe (s_wi0 hin (yT rfl (zT h16 (s_gr_firstSwitch (fun k x1 x2 x3 => by rw [r1 k x1 x2 x3]; exact kk h Qs_rf) (fun x => by rw [r2 x]; exact kk h Qs_rf)))))
        · have v2 := Vw_Qs (Qs_t (x := 0)) v
          exact gk_ci_mk (x_mo_sums (s_mp1 hn v2.1.2.2 hp (zF (by decide) (s_in0 hin (yT rfl (zT h16 (s_mo_switchOf (by omega) (Vw_mp v2 (by omega)).2.2.2.2 (fun k x1 x2 x3 => by rw [r1 k x1 x2 x3]; exact kk _ Qs_t) (fun x => by rw [r2 x]; exact kk _ Qs_t))))))))
      · by_cases hq : ∃ q, q < n ∧ a1 = nI (20 + q)
        · obtain ⟨q, hq, rfl⟩ := hq
          have eq : nI (20 + q) - 20 = nI q := by
            have : nI (20 + q) - nI 20 = nI q := by rw [pk_sub (by omega)]; congr 1; omega
            exact this
          obtain ⟨r, r1, r0⟩ : ∃ r : Int32, ((∀ k, k < 16 → sumN (w.2.1 p) k = sumN (w.2.1 q) k) → r = 1) ∧ ((¬ ∀ k, k < 16 → sumN (w.2.1 p) k = sumN (w.2.1 q) k) → r = 0) := by
            by_cases z : ∀ k, k < 16 → sumN (w.2.1 p) k = sumN (w.2.1 q) k
            · exact ⟨1, fun _ => rfl, fun y => absurd z y⟩
            · exact ⟨0, fun y => absurd y z, fun _ => rfl⟩
          refine ⟨r, fun h K v kk => ?_, fun h K v kk => ?_⟩
          · have kk := kk h Qs_rf
            refine gk_ci_mk (x_dp_sums (s_wh1 hn (Vw_n v) hp (zF (by decide) ⟨vp_in_nI (by omega) (by decide), ?_⟩)))
            rw [nI_clamp (n := p) (by omega), Vw_d v (p := p) (by omega), eq, nI_clamp (n := q) (by omega)]
            refine fe (s_wi0 hin (yT rfl (zF h16 (yF (nI_nlt (b := 20) (by omega) (by omega)) (s_wh1 hn (Vw_n v) hq (zF (by decide) ⟨vp_in_nI (by omega) (by decide), ?_⟩))))))
            rw [Vw_d v (p := q) (by omega)]
            refine s_gr_hasSameSums (fun z => yF (by decide) ?_) (fun z => yT rfl ?_)
            · rw [r1 z] at kk; exact kk
            · rw [r0 z] at kk; exact kk
          · have v2 := Vw_Qs (Qs_t (x := 0)) v
            have kk := kk _ (Qs_t (h := h) (x := 0))
            refine gk_ci_mk (x_mo_sums (s_mp1 hn v2.1.2.2 hp (zF (by decide) (s_in0 hin (yT rfl (zF h16 ?_))))))
            rw [v2.1.2.2, eq]
            refine s_in1 ⟨nI_le (a := 20) (by omega) (by omega), ?_⟩ (yF (by decide) (s_mo_areLike (by omega) (by omega) (Vw_mp v2 (by omega)).2.2.2.2 (Vw_mp v2 (by omega)).2.2.2.2 (fun z => yF (by decide) ?_) (fun z => yT rfl ?_)))
            · rw [show (19 : Int32) + nI n = nI (19 + n) from nI_add 19 n]
              exact nI_le (by omega) (by omega)
            · rw [r1 z] at kk; exact kk
            · rw [r0 z] at kk; exact kk
        · refine ⟨-1, fun h K v kk => ?_, fun h K v kk => ?_⟩
          · refine gk_ci_mk (x_dp_sums (s_wh1 hn (Vw_n v) hp (zF (by decide) ⟨vp_in_nI (by omega) (by decide), fe (s_wi0 hin (yT rfl (zF h16 ⟨fun _ => kk h Qs_rf, fun z => s_wh0 hn (Vw_n v) ?_ (zT rfl (kk h Qs_rf))⟩)))⟩)))
            rintro ⟨q, q1, q2⟩
            refine hq ⟨q, q1, ?_⟩
            have : a1 = a1 - 20 + 20 := by rw [Int32.sub_add_cancel]
            rw [this, q2, Nat.add_comm]
            exact nI_add q 20
          · have v2 := Vw_Qs (Qs_t (x := 0)) v
            refine gk_ci_mk (x_mo_sums (s_mp1 hn v2.1.2.2 hp (zF (by decide) (s_in0 hin (yT rfl (zF h16 ?_))))))
            rw [v2.1.2.2]
            refine s_in0 ?_ (yT rfl (kk _ Qs_t))
            rintro ⟨z1, z2⟩
            rw [show (19 : Int32) + nI n = nI (19 + n) from nI_add 19 n] at z2
            obtain ⟨i, hi, rfl⟩ := of05 (N := 19 + n) (by omega) ⟨Int32.le_trans (by decide) z1, z2⟩
            have := (nI_leI (a := 20) (by decide) (by omega)).mp z1
            exact hq ⟨i - 20, by omega, by rw [show 20 + (i - 20) = i by omega]⟩
  · refine ⟨-1, fun h K v k => ?_, fun h K v k => ?_⟩
    · exact gk_ci_mk (x_dp_sums (s_wh0 hn (Vw_n v) ha (zT rfl (k h Qs_rf))))
    · exact gk_ci_mk (x_mo_sums (s_mp0 hn (Vw_Qs (Qs_t (x := 0)) v).1.2.2 ha (zT rfl (k _ Qs_t))))
