/-! pushed grounds; fit. Rows and columns u, v of 0 .. 16 stand for pushes by u - 8, v - 8 -/
def sI (u : Nat) : Int32 := nI u - nI 8
def psh (g : Int64) (u v t : Nat) : Bool := decide ((u ≤ t / 8 + 8 ∧ t / 8 < u) ∧ (v ≤ t % 8 + 8 ∧ t % 8 < v)) && nb_bitL g (8 * (t / 8 + 8 - u) + (t % 8 + 8 - v))
theorem si1 : ∀ u, u < 17 → ((-7 ≤ sI u ∧ sI u ≤ 7) ↔ (1 ≤ u ∧ u ≤ 15)) ∧ (sI u < 0 ↔ u < 8) ∧ (u < 8 → -sI u = nI (8 - u) ∧ (8 : Int32) * (-sI u) = nI (8 * (8 - u))) ∧ (8 ≤ u → sI u = nI (u - 8) ∧ (8 : Int32) * sI u = nI (8 * (u - 8))) := by decide +kernel
theorem si2 : ∀ k, k < 8 → ∀ t, t < 64 → nb_bitL ((72340172838076673 : Int64) * ((((255 : Int32) <<< (nI k &&& 31)) &&& (255 : Int32)).toInt64)) t = decide (k ≤ t % 8) ∧ nb_bitL ((72340172838076673 : Int64) * (((255 : Int32) >>> (nI k &&& 31)).toInt64)) t = decide (t % 8 + k < 8) := by decide +kernel
theorem psh_row {x y : Int64} {v : Nat} (hv : 1 ≤ v ∧ v ≤ 15) (hy : ∀ t, t < 64 → nb_bitL y t = (decide (v ≤ t % 8 + 8 ∧ t % 8 < v) && nb_bitL x (8 * (t / 8) + (t % 8 + 8 - v)))) {u : Nat} (hu : 1 ≤ u ∧ u ≤ 15) {z : Int64} (hz : ∀ t, t < 64 → nb_bitL z t = (decide (u ≤ t / 8 + 8 ∧ t / 8 < u) && nb_bitL y (t + 64 - 8 * u))) : z = gMk (psh x u v) := by
  refine bL_ext fun t ht => ?_
  rw [bL_mk ht, hz t ht]
  unfold psh
  by_cases q : u ≤ t / 8 + 8 ∧ t / 8 < u
  · rw [decide_eq_true q, Bool.true_and, hy _ (by omega), show (t + 64 - 8 * u) % 8 = t % 8 by omega, show (t + 64 - 8 * u) / 8 = t / 8 + 8 - u by omega]
    simp [q]
  · rw [decide_eq_false q, decide_eq_false (fun w => q w.1)]; rfl
section FIT1
variable {E : gk_E} {d : Nat} {h : gk_H}
theorem s_gr_pushed {K : Int64 → gk_H → Prop} {x : Int64} {u v : Nat} (hu : u < 17) (hv : v < 17) (hk : K (gMk (psh x u v)) h) : gk_cl2 E (d + 2) jgr_pushed [.long x, .int (sI u), .int (sI v)] h K := by
  obtain ⟨u1, u2, u3, u4⟩ := si1 u hu
  obtain ⟨v1, v2, v3, v4⟩ := si1 v hv
  have zero : ¬ ((1 ≤ u ∧ u ≤ 15) ∧ (1 ≤ v ∧ v ≤ 15)) → K 0 h := by
    intro q
    have : gMk (psh x u v) = 0 := bL_eq0 fun t ht => by
      rw [bL_mk ht]
      unfold psh
      by_cases w : (u ≤ t / 8 + 8 ∧ t / 8 < u) ∧ (v ≤ t % 8 + 8 ∧ t % 8 < v)
      · exfalso; omega
      · rw [decide_eq_false w]; rfl
    rw [this] at hk; exact hk
  refine gk_cl_mk (x_gr_pushed ?_)
  unfold w_gr_pushed
  by_cases cu : 1 ≤ u ∧ u ≤ 15
  · by_cases cv : 1 ≤ v ∧ v ≤ 15
    · refine s_wi1 (u1.mpr cu) (yF (by decide) (s_wi1 (v1.mpr cv) (zF (by decide) (fe ?_))))
      have rows : ∀ y : Int64, (∀ t, t < 64 → nb_bitL y t = (decide (v ≤ t % 8 + 8 ∧ t % 8 < v) && nb_bitL x (8 * (t / 8) + (t % 8 + 8 - v)))) → (sI u < 0 → K ((y.toUInt64 >>> (((8 : Int32) * (-sI u)).toInt64.toUInt64 &&& Int64.toUInt64 63)).toInt64) h) ∧ (¬ sI u < 0 → K (y <<< (((8 : Int32) * sI u).toInt64 &&& 63)) h) := by
        intro y hy
        rw [u2]
        refine ⟨fun q => ?_, fun q => ?_⟩
        · rw [(u3 q).2]
          have : (y.toUInt64 >>> ((nI (8 * (8 - u))).toInt64.toUInt64 &&& Int64.toUInt64 63)).toInt64 = gMk (psh x u v) := by
            refine psh_row cv hy cu fun t ht => ?_
            rw [bL_shr y (by omega)]
            by_cases w : u ≤ t / 8 + 8 ∧ t / 8 < u
            · rw [decide_eq_true w, Bool.true_and, show t + 8 * (8 - u) = t + 64 - 8 * u by omega]
            · rw [decide_eq_false w, bL_ge (by omega)]; rfl
          rw [this]; exact hk
        · rw [(u4 (by omega)).2]
          have : y <<< ((nI (8 * (u - 8))).toInt64 &&& 63) = gMk (psh x u v) := by
            refine psh_row cv hy cu fun t ht => ?_
            rw [bL_shl y (by omega), decide_eq_true ht, Bool.true_and]
            by_cases w : u ≤ t / 8 + 8 ∧ t / 8 < u
            · rw [decide_eq_true w, decide_eq_true (by omega), Bool.true_and, Bool.true_and, show t - 8 * (u - 8) = t + 64 - 8 * u by omega]
            · rw [decide_eq_false w, decide_eq_false (by omega)]; rfl
          rw [this]; exact hk
      rw [v2]
      refine ⟨fun q => fe (rows _ fun t ht => ?_), fun q => fe (rows _ fun t ht => ?_)⟩
      · rw [(v3 q).1, bL_shr _ (by omega), bL_and]
        by_cases w : t + (8 - v) < 64
        · rw [(si2 (8 - v) (by omega) _ w).1]
          by_cases w2 : t % 8 < v
          · rw [decide_eq_true (by omega), Bool.and_true, decide_eq_true (by omega), Bool.true_and, show 8 * (t / 8) + (t % 8 + 8 - v) = t + (8 - v) by omega]
          · rw [decide_eq_false (p := 8 - v ≤ (t + (8 - v)) % 8) (by omega), decide_eq_false (p := v ≤ t % 8 + 8 ∧ t % 8 < v) (by omega)]; simp
        · rw [bL_ge (x := x) (by omega), decide_eq_false (p := v ≤ t % 8 + 8 ∧ t % 8 < v) (by omega)]; rfl
      · rw [(v4 (by omega)).1, bL_shl _ (by omega), bL_and, decide_eq_true ht, Bool.true_and]
        by_cases w : v - 8 ≤ t
        · rw [decide_eq_true w, Bool.true_and, (si2 (v - 8) (by omega) _ (by omega)).2]
          by_cases w2 : v ≤ t % 8 + 8
          · rw [decide_eq_true (by omega), Bool.and_true, decide_eq_true (by omega), Bool.true_and, show 8 * (t / 8) + (t % 8 + 8 - v) = t - (v - 8) by omega]
          · rw [decide_eq_false (p := (t - (v - 8)) % 8 + (v - 8) < 8) (by omega), decide_eq_false (p := v ≤ t % 8 + 8 ∧ t % 8 < v) (by omega)]; simp
        · rw [decide_eq_false w, decide_eq_false (p := v ≤ t % 8 + 8 ∧ t % 8 < v) (by omega)]; rfl
    · exact s_wi1 (u1.mpr cu) (yF (by decide) (s_wi0 (fun q => cv (v1.mp q)) (zT rfl (zero (fun q => cv q.2)))))
  · exact s_wi0 (fun q => cu (u1.mp q)) (yT rfl (zero (fun q => cu q.1)))
def ovl (a b : Int64) (u v : Nat) : Nat := nb_cnt (fun t => nb_bitL a t && psh b u v t) 64
theorem ovl_le (a b : Int64) (u v : Nat) : ovl a b u v ≤ 64 := nb_cnt_le _ _
theorem s_gr_overlap {K : Int32 → gk_H → Prop} {a b : Int64} {u v : Nat} (hu : u < 17) (hv : v < 17) (hk : K (nI (ovl a b u v)) h) : gk_ci E (d + 3) jgr_overlap [.long a, .long b, .int (sI u), .int (sI v)] h K := by
  refine gk_ci_mk (x_gr_overlap (s_gr_pushed hu hv (s_jl_bitCount ?_)))
  have : nb_onesL (a &&& gMk (psh b u v)) = ovl a b u v := nb_cnt_congr fun t ht => by rw [bL_and, bL_mk ht]
  rw [this]; exact hk
def cplN (a b : Int64) (u v : Nat) : Int32 := if ovl a b u v = 0 then nI (ovl a b (u - 1) v + ovl a b (u + 1) v + ovl a b u (v - 1) + ovl a b u (v + 1)) else -1
theorem si3 : ∀ q, q < 15 → nI q - 7 = sI (q + 1) := by decide +kernel
theorem si4 : ∀ q, q < 16 → sI (q + 1) - 1 = sI q ∧ sI q + 1 = sI (q + 1) := by decide +kernel
theorem s_gr_couples {K : Int32 → gk_H → Prop} {a b : Int64} {k : Nat} (h2 : k < 225) (hk : K (cplN a b (k / 15 + 1) (k % 15 + 1)) h) : gk_ci E (d + 4) jgr_couples [.long a, .long b, .int (nI k)] h K := by
  have e1 : nI k / 15 = nI (k / 15) := pk_div (d := 15) (by omega) (by omega) (by omega)
  have e2 : nI k - nI k / 15 * 15 = nI (k % 15) := pk_rem (d := 15) (by omega) (by omega) (by omega)
  refine gk_ci_mk (x_gr_couples ?_)
  unfold w_gr_couples
  rw [e2, e1, si3 _ (by omega), si3 _ (by omega)]
  refine ⟨by decide, fe ⟨by decide, fe (s_gr_overlap (by omega) (by omega) ?_)⟩⟩
  have l := ovl_le a b (k / 15 + 1) (k % 15 + 1)
  unfold cplN at hk
  refine pk_le _ 0 (fun q => ?_) (fun q => ?_)
  · rw [if_pos (by omega)] at hk
    rw [(si4 (k / 15) (by omega)).1, (si4 (k / 15 + 1) (by omega)).2, (si4 (k % 15) (by omega)).1, (si4 (k % 15 + 1) (by omega)).2]
    refine s_gr_overlap (by omega) (by omega) (s_gr_overlap (by omega) (by omega) (s_gr_overlap (by omega) (by omega) (s_gr_overlap (by omega) (by omega) ?_)))
    rw [nI_add, nI_add, nI_add]
    exact hk
  · rw [if_neg (by omega)] at hk; exact hk
/-- the best of the first j pushes: how many couples, which -/
def bst (a b : Int64) : Nat → Int32 × Int32
  | 0 => (-1, -1)
  | j + 1 => if cplN a b (j / 15 + 1) (j % 15 + 1) ≤ (bst a b j).1 then bst a b j else (cplN a b (j / 15 + 1) (j % 15 + 1), nI j)
theorem bst_i (a b : Int64) : ∀ j, ((bst a b j).1 = -1 ∧ (bst a b j).2 = -1) ∨ ∃ i, i < j ∧ (bst a b j).2 = nI i ∧ (bst a b j).1 = cplN a b (i / 15 + 1) (i % 15 + 1) := by
  intro j
  induction j with
  | zero => exact Or.inl ⟨rfl, rfl⟩
  | succ j ih =>
    rw [bst]
    by_cases q : cplN a b (j / 15 + 1) (j % 15 + 1) ≤ (bst a b j).1
    · rw [if_pos q]
      rcases ih with z | ⟨i, i1, i2⟩
      · exact Or.inl z
      · exact Or.inr ⟨i, by omega, i2⟩
    · rw [if_neg q]; exact Or.inr ⟨j, by omega, rfl, rfl⟩
theorem s_gr_bestPush {K : Int32 → gk_H → Prop} {a b : Int64} (hk : K (bst a b 225).2 h) : gk_ci E (d + 5) jgr_bestPush [.long a, .long b] h K := by
  refine gk_ci_mk (x_gr_bestPush (fe (fe (fe ?_))))
  refine lp_up (N := 225) (fun j (_ : Unit) => g_gr_bestPush_9 E (d + 4) (gk_qi K) a b (bst a b j).1 (bst a b j).2 (nI j) h) (fun _ _ => True) ?_ ?_ 0 () (by decide) trivial
  · intro j _ hj _ ih
    have ih := ih () trivial
    rw [bst] at ih
    refine x_gr_bestPush_9 (pk_le 225 j (fun q => by omega) (fun _ => s_gr_couples hj (fe ⟨fun q => fe ?_, fun q => fe (fe (fe ?_))⟩)))
    · rw [if_pos q] at ih; rw [nI_1]; exact ih
    · rw [if_neg q] at ih; rw [nI_1]; exact ih
  · intro _ _
    exact x_gr_bestPush_9 (pk_le 225 225 (fun _ => hk) (fun q => by omega))
end FIT1
/-! the reference's pushed rows -/
def lrN (g : Int64) (r : Nat) : Nat := g.toBitVec.toNat / 2 ^ (8 * r) % 256
theorem lrN_lt (g : Int64) (r : Nat) : lrN g r < 256 := Nat.mod_lt _ (by decide)
def pR (b : Int64) (u v r : Nat) : Int32 := if u ≤ r + 8 ∧ r < u then nI (lrN b (r + 8 - u) * 2 ^ v) else 0
theorem p2v : ∀ v, v < 17 → 2 ^ v ≤ 65536 ∧ 0 < 2 ^ v := by decide
theorem pR_n (b : Int64) {u v r : Nat} (hv : v < 17) : ∃ m, m < 2 ^ 24 ∧ pR b u v r = nI m ∧ m = if u ≤ r + 8 ∧ r < u then lrN b (r + 8 - u) * 2 ^ v else 0 := by
  have l := lrN_lt b (r + 8 - u)
  obtain ⟨p1, p2⟩ := p2v v hv
  have : lrN b (r + 8 - u) * 2 ^ v < 2 ^ 24 := by
    have h1 : lrN b (r + 8 - u) * 2 ^ v ≤ 255 * 65536 := Nat.mul_le_mul (by omega) p1
    omega
  unfold pR
  by_cases q : u ≤ r + 8 ∧ r < u
  · rw [if_pos q, if_pos q]; exact ⟨_, this, rfl, rfl⟩
  · rw [if_neg q, if_neg q]; exact ⟨0, by decide, rfl, rfl⟩
theorem pR_sl (b : Int64) {u v r : Nat} (hv : v < 16) : pR b u v r <<< ((1 : Int32) &&& 31) = pR b u (v + 1) r := by
  obtain ⟨m, m1, m2, m3⟩ := pR_n b (u := u) (r := r) (v := v) (by omega)
  obtain ⟨m', m1', m2', m3'⟩ := pR_n b (u := u) (r := r) (v := v + 1) (by omega)
  rw [m2, m2', pk_shlN _ 1 (by decide) (by omega)]
  congr 1
  rw [m3, m3']
  by_cases q : u ≤ r + 8 ∧ r < u
  · rw [if_pos q, if_pos q, Nat.pow_succ 2 v, ← Nat.mul_assoc, Nat.pow_one]
  · rw [if_neg q, if_neg q, Nat.zero_mul]
theorem pR_sr (b : Int64) {u v r : Nat} (h0 : 1 ≤ v) (hv : v < 17) : pR b u v r >>> ((1 : Int32) &&& 31) = pR b u (v - 1) r := by
  obtain ⟨m, m1, m2, m3⟩ := pR_n b (u := u) (r := r) (v := v) hv
  obtain ⟨m', m1', m2', m3'⟩ := pR_n b (u := u) (r := r) (v := v - 1) (by omega)
  rw [m2, m2', pk_shrN (by omega) _ 1 (by decide)]
  congr 1
  rw [m3, m3']
  by_cases q : u ≤ r + 8 ∧ r < u
  · rw [if_pos q, if_pos q]
    obtain ⟨k, rfl⟩ : ∃ k, v = k + 1 := ⟨v - 1, by omega⟩
    rw [Nat.add_sub_cancel, Nat.pow_succ, ← Nat.mul_assoc, Nat.pow_one, Nat.mul_div_cancel _ (by decide)]
  · rw [if_neg q, if_neg q]
theorem pR_bit (a b : Int64) {u v r i : Nat} (hr : r < 8) (hv : v < 17) (hi : i < 32) : nb_bit ((lr a r <<< ((8 : Int32) &&& 31)) &&& pR b u v r) i = (decide (8 ≤ i ∧ i < 16) && (nb_bitL a (8 * r + (i - 8)) && psh b u v (8 * r + (i - 8)))) := by
  have s1 : nb_bit (lr a r <<< ((8 : Int32) &&& 31)) i = (decide (i < 32) && (decide (8 ≤ i) && nb_bit (lr a r) (i - 8))) := bI_shl (lr a r) (k := 8) (by decide) i
  rw [bI_and, s1, lr_bit, decide_eq_true hi, Bool.true_and]
  by_cases q : 8 ≤ i ∧ i < 16
  · rw [decide_eq_true q, decide_eq_true q.1, decide_eq_true (show i - 8 < 8 by omega), Bool.true_and, Bool.true_and, Bool.true_and]
    congr 1
    obtain ⟨m, m1, m2, m3⟩ := pR_n b (u := u) (r := r) (v := v) hv
    rw [m2, nb_bit_toNat, pk_tn (by omega), m3]
    unfold psh
    rw [show (8 * r + (i - 8)) / 8 = r by omega, show (8 * r + (i - 8)) % 8 = i - 8 by omega]
    by_cases w : u ≤ r + 8 ∧ r < u
    · rw [if_pos w, Nat.testBit_mul_two_pow]
      by_cases w2 : v ≤ i
      · unfold lrN
        rw [lr_tb]
        by_cases w3 : i - v < 8
        · simp [w, w2, w3, show v ≤ i - 8 + 8 by omega, show i - 8 < v by omega, show i - 8 + 8 - v = i - v by omega]
        · simp [w, w2, w3, show ¬ i - 8 < v by omega]
      · simp [w2, show ¬ v ≤ i - 8 + 8 by omega]
    · rw [if_neg w]
      simp [w]
  · rw [decide_eq_false q]
    by_cases z : 8 ≤ i
    · rw [decide_eq_false (show ¬ i - 8 < 8 by omega)]; simp
    · rw [decide_eq_false z]; rfl
theorem pR_ones (a b : Int64) {u v r : Nat} (hr : r < 8) (hv : v < 17) : nb_ones ((lr a r <<< ((8 : Int32) &&& 31)) &&& pR b u v r) = sm (fun c => (nb_bitL a (8 * r + c) && psh b u v (8 * r + c)).toNat) 8 := by
  unfold nb_ones
  rw [show (32 : Nat) = 8 + 8 + 16 from rfl, nb_cnt_add, nb_cnt_add, ← sm_cnt]
  have z1 : nb_cnt (nb_bit ((lr a r <<< ((8 : Int32) &&& 31)) &&& pR b u v r)) 8 = 0 := cnt_zero fun i hi => by
    rw [pR_bit a b hr hv (by omega), decide_eq_false (by omega)]; rfl
  have z2 : nb_cnt (fun i => nb_bit ((lr a r <<< ((8 : Int32) &&& 31)) &&& pR b u v r) (8 + 8 + i)) 16 = 0 := cnt_zero fun i hi => by
    rw [pR_bit a b hr hv (by omega), decide_eq_false (by omega)]; rfl
  have z3 : nb_cnt (fun i => nb_bit ((lr a r <<< ((8 : Int32) &&& 31)) &&& pR b u v r) (8 + i)) 8 = nb_cnt (fun c => nb_bitL a (8 * r + c) && psh b u v (8 * r + c)) 8 := nb_cnt_congr fun i hi => by
    rw [pR_bit a b hr hv (by omega), decide_eq_true (by omega), Bool.true_and, Nat.add_sub_cancel_left]
  rw [z1, z2, z3]; omega
theorem ovl_8 (a b : Int64) (u v : Nat) : ovl a b u v = sm (fun r => sm (fun c => (nb_bitL a (8 * r + c) && psh b u v (8 * r + c)).toNat) 8) 8 := by
  unfold ovl
  rw [sm_cnt]
  exact sm_8 (fun t => (nb_bitL a t && psh b u v t).toNat) 8
theorem si5 : ∀ r, r < 8 → ∀ u, u < 17 → (nI r - sI u = nI (r + 8) - nI u) ∧ (u < 16 → nI r - 1 - sI u = nI (r + 8) - nI (u + 1)) ∧ (1 ≤ u → nI r + 1 - sI u = nI (r + 8) - nI (u - 1)) ∧ ((0 ≤ nI (r + 8) - nI u ∧ nI (r + 8) - nI u ≤ 7) ↔ (u ≤ r + 8 ∧ r < u)) := by decide +kernel
theorem si6 : ∀ v, v < 17 → (8 : Int32) + sI v = nI v := by decide +kernel
theorem sm_0 {f : Nat → Nat} {n : Nat} (h : ∀ i, i < n → f i = 0) : sm f n = 0 := by
  induction n with
  | zero => rfl
  | succ n ih => rw [sm, ih (fun i hi => h i (by omega)), h n (by omega)]
section FIT2
variable {E : gk_E} {d : Nat} {h : gk_H} {K : Int32 → gk_H → Prop}
theorem s_mo_pushedRow {q : Nat} {b : Int64} {x y : Int32} {u v r : Nat} (hq : q < 10) (hb : MG h q b) (hr : r < 8) (hu : u < 17) (hv : v < 17) (e : x - y = nI (r + 8) - nI u) (hk : K (pR b u v r) h) : gk_ci E (d + 2) jmo_pushedRow [.ref 112, .int (nI q), .int x, .int y, .int (sI v)] h K := by
  obtain ⟨-, -, -, c⟩ := si5 r hr u hu
  refine gk_ci_mk (x_mo_pushedRow ?_)
  unfold w_mo_pushedRow
  rw [e, si6 v hv]
  unfold pR at hk
  by_cases z : u ≤ r + 8 ∧ r < u
  · rw [if_pos z] at hk
    refine s_in1 (c.mpr z) (yF (by decide) ?_)
    rw [pk_sub z.1]
    refine s_mo_rowAt ⟨vp_in_nI (by omega) (by decide), ?_⟩
    rw [nI_clamp (by omega), hb _ (by omega)]
    have l := lrN_lt b (r + 8 - u)
    obtain ⟨p1, p2⟩ := p2v v hv
    have e2 : lr b (r + 8 - u) <<< (nI v &&& 31) = nI (lrN b (r + 8 - u) * 2 ^ v) := by
      refine pk_shlN _ v (nb_sh v (by omega)) ?_
      have h1 : lrN b (r + 8 - u) * 2 ^ v ≤ 255 * 65536 := Nat.mul_le_mul (by omega) p1
      have h2 : b.toBitVec.toNat / 2 ^ (8 * (r + 8 - u)) % 256 = lrN b (r + 8 - u) := rfl
      rw [h2]; omega
    rw [e2]; exact hk
  · rw [if_neg z] at hk
    exact s_in0 (fun w => z (c.mp w)) (yT rfl hk)
theorem s_mo_couplesBy {p q : Nat} {a b : Int64} {u v : Nat} (hp : p < 10) (hq : q < 10) (ha : MG h p a) (hb : MG h q b) (hu : 1 ≤ u ∧ u ≤ 15) (hv : 1 ≤ v ∧ v ≤ 15) (hk : K (cplN a b u v) h) : gk_ci E (d + 3) jmo_couplesBy [.ref 112, .int (nI p), .int (nI q), .int (sI u), .int (sI v)] h K := by
  refine gk_ci_mk (x_mo_couplesBy (fe (fe ?_)))
  unfold cplN at hk
  have rs : ∀ u v n, sm (fun r => sm (fun c => (nb_bitL a (8 * r + c) && psh b u v (8 * r + c)).toNat) 8) (n + 1) = sm (fun r => sm (fun c => (nb_bitL a (8 * r + c) && psh b u v (8 * r + c)).toNat) 8) n + sm (fun c => (nb_bitL a (8 * n + c) && psh b u v (8 * n + c)).toNat) 8 := fun u v n => rfl
  refine lp_up (N := 8) (fun r (s : Int32) => g_mo_couplesBy_6 E (d + 2) (gk_qi K) (nI p) (nI q) (sI u) (sI v) s (nI r) h) (fun r s => s = nI (sm (fun r => sm (fun c => (nb_bitL a (8 * r + c) && psh b (u - 1) v (8 * r + c)).toNat) 8) r + sm (fun r => sm (fun c => (nb_bitL a (8 * r + c) && psh b (u + 1) v (8 * r + c)).toNat) 8) r + sm (fun r => sm (fun c => (nb_bitL a (8 * r + c) && psh b u (v - 1) (8 * r + c)).toNat) 8) r + sm (fun r => sm (fun c => (nb_bitL a (8 * r + c) && psh b u (v + 1) (8 * r + c)).toNat) 8) r) ∧ sm (fun r => sm (fun c => (nb_bitL a (8 * r + c) && psh b u v (8 * r + c)).toNat) 8) r = 0) ?_ ?_ 0 0 (by decide) ⟨rfl, rfl⟩
  · rintro r s hr ⟨rfl, i2⟩ ih
    obtain ⟨c1, c2, c3, -⟩ := si5 r hr u (by omega)
    refine x_mo_couplesBy_6 (pk_le 8 r (fun z => by omega) (fun _ => s_mo_rowAt ⟨vp_in_nI (by omega) (by decide), ?_⟩))
    rw [nI_clamp (by omega), ha r hr]
    refine fe (s_mo_pushedRow hq hb hr (by omega) (by omega) c1 (fe ⟨fun z => ?_, fun z => ?_⟩))
    · rw [pR_sl b (by omega), pR_sr b (by omega) (by omega)]
      refine s_mo_onesOf (s_mo_onesOf (s_mo_pushedRow hq hb hr (by omega) (by omega) (c2 (by omega)) (s_mo_onesOf (s_mo_pushedRow hq hb hr (by omega) (by omega) (c3 (by omega)) (s_mo_onesOf (fe (fe ?_)))))))
      rw [nI_1, pR_ones a b hr (by omega), pR_ones a b hr (by omega), pR_ones a b hr (by omega), pR_ones a b hr (by omega), nI_add, nI_add, nI_add, nI_add]
      refine ih _ ⟨?_, ?_⟩
      · rw [rs, rs, rs, rs]
        exact congrArg nI (by omega)
      · rw [rs, i2, ← pR_ones a b hr (by omega), z]; rfl
    · rw [if_neg] at hk
      · exact hk
      · intro w
        rw [ovl_8] at w
        have m : ∀ n, sm (fun r => sm (fun c => (nb_bitL a (8 * r + c) && psh b u v (8 * r + c)).toNat) 8) (r + 1 + n) = 0 → sm (fun c => (nb_bitL a (8 * r + c) && psh b u v (8 * r + c)).toNat) 8 = 0 := by
          intro n hn
          rw [sm_split, rs] at hn
          omega
        have w2 := m (7 - r) (by rw [show r + 1 + (7 - r) = 8 by omega]; exact w)
        rw [← pR_ones a b hr (by omega)] at w2
        refine z (bI_ext fun i hi => ?_)
        rw [bI_0]
        cases e : nb_bit ((lr a r <<< ((8 : Int32) &&& 31)) &&& pR b u v r) i with
        | false => rfl
        | true => have := cnt_pos hi e; unfold nb_ones at w2; omega
  · rintro s ⟨rfl, i2⟩
    rw [← ovl_8] at i2
    rw [if_pos i2, ovl_8, ovl_8, ovl_8, ovl_8] at hk
    exact x_mo_couplesBy_6 (pk_le 8 8 (fun _ => hk) (fun z => by omega))
end FIT2
theorem lc_fit {E : gk_E} {d : Nat} (a0 a1 a2 : Int32) : lc_ok E (d + 6) InvX jdp_fit jmo_fit [.int a0, .int a1, .int a2] := by
  refine lc_q fun n w T X hn hw0 hgw hT => ?_
  by_cases ha : ∃ q, q < n ∧ a0 = nI q
  · obtain ⟨p, hp, rfl⟩ := ha
    by_cases hb : ∃ q, q < n ∧ a1 = nI q
    · obtain ⟨q, hq, rfl⟩ := hb
      by_cases hin : (0 : Int32) ≤ a2 ∧ a2 ≤ 1
      · refine ⟨if a2 = 0 then (bst (w.2.1 p) (w.2.1 q) 225).1 else (bst (w.2.1 p) (w.2.1 q) 225).2, fun h K v k => ?_, fun h K v k => ?_⟩
        · have k := k h Qs_rf
          refine gk_ci_mk (x_dp_fit (s_wh1 hn (Vw_n v) hp (yF (by decide) (s_wh1 hn (Vw_n v) hq (yF (by decide) (s_wi1 hin (zF (by decide) ⟨vp_in_nI (by omega) (by decide), vp_in_nI (by omega) (by decide), ?_⟩)))))))
          rw [nI_clamp (n := p) (by omega), nI_clamp (n := q) (by omega), Vw_d v (p := p) (by omega), Vw_d v (p := q) (by omega)]
          refine s_gr_bestPush (fe ?_)
          have i01 : a2 = 0 ∨ a2 = 1 := by
            obtain ⟨i, hi, rfl⟩ := of05 (N := 1) (by decide) hin
            have : i = 0 ∨ i = 1 := by omega
            rcases this with rfl | rfl
            · exact Or.inl rfl
            · exact Or.inr rfl
          rcases bst_i (w.2.1 p) (w.2.1 q) 225 with ⟨z1, z2⟩ | ⟨i, i1, i2, i3⟩
          · rw [z2]
            refine yT rfl ?_
            rw [z1, z2, ite_self] at k; exact k
          · rw [i2]
            refine yF ?_ ⟨fun z => ⟨vp_in_nI (by omega) (by decide), vp_in_nI (by omega) (by decide), s_gr_couples i1 ?_⟩, fun z => ?_⟩
            · intro z
              have := nI_pos (n := i) (by omega)
              rw [z] at this; exact absurd (by decide) this
            · have z0 : a2 = 0 := i01.resolve_right z
              rw [if_pos z0, i3] at k
              rw [Vw_d v (p := p) (by omega), Vw_d v (p := q) (by omega)]; exact k
            · rw [if_neg (by rw [z]; decide), i2] at k; exact k
        · have v2 := Vw_Qs (Qs_t (x := 0)) v
          have k := k _ (Qs_t (h := h) (x := 0))
          have gp := (Vw_mp v2 (p := p) (by omega)).2.2.2.2
          have gq := (Vw_mp v2 (p := q) (by omega)).2.2.2.2
          refine gk_ci_mk (x_mo_fit (s_mp1 hn v2.1.2.2 hp (yF (by decide) (s_mp1 hn v2.1.2.2 hq (yF (by decide) (s_in1 hin (zF (by decide) (fe (fe (fe ?_))))))))))
          refine lp_up (N := 225) (fun j (_ : Unit) => g_mo_fit_42 E (d + 5) (gk_qi K) (nI p) (nI q) a2 (bst (w.2.1 p) (w.2.1 q) j).2 (bst (w.2.1 p) (w.2.1 q) j).1 (nI j) (gk_hf h 112 0 0)) (fun _ _ => True) ?_ ?_ 0 () (by decide) trivial
          · intro j _ hj _ ih
            have ih := ih () trivial
            rw [bst] at ih
            have e1 : nI j / 15 = nI (j / 15) := pk_div (d := 15) (by omega) (by omega) (by omega)
            have e2 : nI j - nI j / 15 * 15 = nI (j % 15) := pk_rem (d := 15) (by omega) (by omega) (by omega)
            refine x_mo_fit_42 (pk_le 225 j (fun q => by omega) (fun _ => ⟨by decide, by decide, ?_⟩))
            rw [e2, e1, si3 _ (by omega), si3 _ (by omega)]
            refine s_mo_couplesBy (by omega) (by omega) gp gq (by omega) (by omega) (fe ⟨fun z => fe (gk_ci_mk (x_mo_greater ⟨fun z2 => fe (fe ?_), fun z2 => fe (fe ?_)⟩)), fun z => fe (gk_ci_mk (x_mo_greater ⟨fun z2 => fe (fe ?_), fun z2 => absurd (Int32.le_of_lt (Int32.not_le.mp z)) z2⟩))⟩)
            · rw [if_pos z] at ih; rw [nI_1, Int32.le_antisymm z z2]; exact ih
            · rw [if_pos z] at ih; rw [nI_1]; exact ih
            · rw [if_neg z] at ih; rw [nI_1]; exact ih
          · intro _ _
            refine x_mo_fit_42 (pk_le 225 225 (fun _ => ⟨fun z => ?_, fun z => ?_⟩) (fun q => by omega))
            · rw [if_neg z] at k; exact k
            · rw [if_pos z] at k; exact k
      · refine ⟨-1, fun h K v k => ?_, fun h K v k => ?_⟩
        · exact gk_ci_mk (x_dp_fit (s_wh1 hn (Vw_n v) hp (yF (by decide) (s_wh1 hn (Vw_n v) hq (yF (by decide) (s_wi0 hin (zT rfl (k h Qs_rf))))))))
        · have v2 := Vw_Qs (Qs_t (x := 0)) v
          exact gk_ci_mk (x_mo_fit (s_mp1 hn v2.1.2.2 hp (yF (by decide) (s_mp1 hn v2.1.2.2 hq (yF (by decide) (s_in0 hin (zT rfl (k _ Qs_t))))))))
    · refine ⟨-1, fun h K v k => ?_, fun h K v k => ?_⟩
      · exact gk_ci_mk (x_dp_fit (s_wh1 hn (Vw_n v) hp (yF (by decide) (s_wh0 hn (Vw_n v) hb (yT rfl (k h Qs_rf))))))
      · have v2 := Vw_Qs (Qs_t (x := 0)) v
        exact gk_ci_mk (x_mo_fit (s_mp1 hn v2.1.2.2 hp (yF (by decide) (s_mp0 hn v2.1.2.2 hb (yT rfl (k _ Qs_t))))))
  · refine ⟨-1, fun h K v k => ?_, fun h K v k => ?_⟩
    · exact gk_ci_mk (x_dp_fit (s_wh0 hn (Vw_n v) ha (yT rfl (k h Qs_rf))))
    · exact gk_ci_mk (x_mo_fit (s_mp0 hn (Vw_Qs (Qs_t (x := 0)) v).1.2.2 ha (yT rfl (k _ Qs_t))))
