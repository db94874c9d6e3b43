/-! bits of a ground; sums; loops that count up -/
theorem lp_up {σ : Type} {N : Nat} (G : Nat → σ → Prop) (I : Nat → σ → Prop) (hs : ∀ j s, j < N → I j s → (∀ s', I (j + 1) s' → G (j + 1) s') → G j s) (hf : ∀ s, I N s → G N s) : ∀ (j : Nat) (s : σ), j ≤ N → I j s → G j s := by
  have key : ∀ (n j : Nat) (s : σ), j + n = N → I j s → G j s := by
    intro n
    induction n with
    | zero => intro j s hj hI; have : j = N := by omega
              subst this; exact hf s hI
    | succ n ih => intro j s hj hI; exact hs j s (by omega) hI (fun s' h' => ih (j + 1) s' (by omega) h')
  intro j s hj hI
  exact key (N - j) j s (by omega) hI
theorem bL_ge {x : Int64} {c : Nat} (h : 64 ≤ c) : nb_bitL x c = false := BitVec.getLsbD_of_ge _ _ h
theorem bL_lt {x : Int64} {c : Nat} (h : nb_bitL x c = true) : c < 64 := by
  rcases Nat.lt_or_ge c 64 with q | q
  · exact q
  · rw [bL_ge q] at h; cases h
theorem bL_ext {x y : Int64} (h : ∀ c, c < 64 → nb_bitL x c = nb_bitL y c) : x = y := Int64.toBitVec_inj.mp (BitVec.eq_of_getLsbD_eq fun i hi => h i hi)
theorem bL_and (x y : Int64) (c : Nat) : nb_bitL (x &&& y) c = (nb_bitL x c && nb_bitL y c) := by unfold nb_bitL; rw [Int64.toBitVec_and, BitVec.getLsbD_and]
theorem bL_or (x y : Int64) (c : Nat) : nb_bitL (x ||| y) c = (nb_bitL x c || nb_bitL y c) := by unfold nb_bitL; rw [Int64.toBitVec_or, BitVec.getLsbD_or]
theorem bL_m1 : ∀ c, c < 64 → nb_bitL (-1 : Int64) c = true := by decide +kernel
theorem bL_not (x : Int64) (c : Nat) : nb_bitL (x ^^^ (-1 : Int64)) c = (decide (c < 64) && !nb_bitL x c) := by
  have e : nb_bitL (x ^^^ (-1 : Int64)) c = (nb_bitL x c ^^ nb_bitL (-1 : Int64) c) := by unfold nb_bitL; rw [Int64.toBitVec_xor, BitVec.getLsbD_xor]
  rw [e]
  by_cases q : c < 64
  · rw [bL_m1 c q, decide_eq_true q]; cases nb_bitL x c <;> rfl
  · rw [bL_ge (x := x) (by omega), bL_ge (x := -1) (by omega), decide_eq_false q]; rfl
theorem bL_0 (c : Nat) : nb_bitL 0 c = false := by
  have : ∀ c, c < 64 → nb_bitL 0 c = false := by decide +kernel
  by_cases q : c < 64
  · exact this c q
  · exact bL_ge (by omega)
theorem bL_ne0 {x : Int64} (h : ¬ x = 0) : ∃ c, c < 64 ∧ nb_bitL x c = true := by
  apply Classical.byContradiction
  intro q
  refine h (bL_ext fun c hc => ?_)
  rw [bL_0]
  cases e : nb_bitL x c with
  | false => rfl
  | true => exact absurd ⟨c, hc, e⟩ q
theorem bL_eq0 {x : Int64} (h : ∀ c, c < 64 → nb_bitL x c = false) : x = 0 := bL_ext fun c hc => by rw [bL_0, h c hc]
theorem bL_shl (x : Int64) {k : Nat} (hk : k < 64) (c : Nat) : nb_bitL (x <<< ((nI k).toInt64 &&& 63)) c = (decide (c < 64) && (decide (k ≤ c) && nb_bitL x (c - k))) := by
  unfold nb_bitL
  rw [nb_lshl x hk, BitVec.getLsbD_shiftLeft]
  by_cases q : c < k
  · have : ¬ k ≤ c := by omega
    simp [q, this]
  · have : k ≤ c := by omega
    simp [q, this]
theorem bL_shr (x : Int64) {k : Nat} (hk : k < 64) (c : Nat) : nb_bitL ((x.toUInt64 >>> ((nI k).toInt64.toUInt64 &&& Int64.toUInt64 63)).toInt64) c = nb_bitL x (c + k) := by
  unfold nb_bitL
  rw [nb_lushr x hk, BitVec.getLsbD_ushiftRight, Nat.add_comm]
theorem bL_1 : ∀ c, nb_bitL 1 c = decide (c = 0) := by
  intro c
  have : ∀ c, c < 64 → nb_bitL 1 c = decide (c = 0) := by decide +kernel
  by_cases q : c < 64
  · exact this c q
  · rw [bL_ge (by omega)]; exact (decide_eq_false (by omega)).symm
theorem bL_one {k : Nat} (hk : k < 64) (c : Nat) : nb_bitL ((1 : Int64) <<< ((nI k).toInt64 &&& 63)) c = decide (c = k) := by
  rw [bL_shl 1 hk, bL_1]
  by_cases q : c = k
  · subst q; simp [hk]
  · rw [decide_eq_false q]
    by_cases q2 : k ≤ c
    · rw [decide_eq_false (p := c - k = 0) (by omega)]; simp
    · simp [q2]
theorem bL_c7 : ∀ c, c < 64 → nb_bitL 9187201950435737471 c = decide (c % 8 ≠ 7) := by decide +kernel
theorem bL_c0 : ∀ c, c < 64 → nb_bitL (-72340172838076674) c = decide (c % 8 ≠ 0) := by decide +kernel
theorem bL_col0 : ∀ c, c < 64 → nb_bitL 72340172838076673 c = decide (c % 8 = 0) := by decide +kernel
theorem bL_row0 : ∀ c, c < 64 → nb_bitL 255 c = decide (c < 8) := by decide +kernel
theorem bL_border : ∀ c, c < 64 → nb_bitL (-35604928818740737) c = (decide (c / 8 = 0) || (decide (c / 8 = 7) || (decide (c % 8 = 0) || decide (c % 8 = 7)))) := by decide +kernel
def gUp (x : Int64) : Int64 := (x.toUInt64 >>> ((8 : Int32).toInt64.toUInt64 &&& Int64.toUInt64 63)).toInt64
def gDn (x : Int64) : Int64 := x <<< ((8 : Int32).toInt64 &&& 63)
def gLf (x : Int64) : Int64 := ((x.toUInt64 >>> ((1 : Int32).toInt64.toUInt64 &&& Int64.toUInt64 63)).toInt64) &&& (9187201950435737471 : Int64)
def gRt (x : Int64) : Int64 := (x <<< ((1 : Int32).toInt64 &&& 63)) &&& (-72340172838076674 : Int64)
def gBs (x : Int64) : Int64 := ((gUp x ||| gDn x) ||| gLf x) ||| gRt x
theorem bL_up (x : Int64) (c : Nat) : nb_bitL (gUp x) c = nb_bitL x (c + 8) := bL_shr x (k := 8) (by decide) c
theorem bL_dn (x : Int64) (c : Nat) : nb_bitL (gDn x) c = (decide (c < 64) && (decide (8 ≤ c) && nb_bitL x (c - 8))) := bL_shl x (k := 8) (by decide) c
theorem bL_lf (x : Int64) (c : Nat) : nb_bitL (gLf x) c = (decide (c % 8 ≠ 7) && nb_bitL x (c + 1)) := by
  have e := bL_shr x (k := 1) (by decide) c
  unfold gLf
  rw [bL_and]
  have e2 : nb_bitL ((x.toUInt64 >>> ((1 : Int32).toInt64.toUInt64 &&& Int64.toUInt64 63)).toInt64) c = nb_bitL x (c + 1) := e
  rw [e2]
  by_cases q : c < 64
  · rw [bL_c7 c q, Bool.and_comm]
  · rw [bL_ge (x := x) (by omega)]; simp
theorem bL_rt (x : Int64) (c : Nat) : nb_bitL (gRt x) c = (decide (c < 64) && (decide (c % 8 ≠ 0) && nb_bitL x (c - 1))) := by
  have e := bL_shl x (k := 1) (by decide) c
  unfold gRt
  rw [bL_and]
  have e2 : nb_bitL (x <<< ((1 : Int32).toInt64 &&& 63)) c = (decide (c < 64) && (decide (1 ≤ c) && nb_bitL x (c - 1))) := e
  rw [e2]
  by_cases q : c < 64
  · rw [bL_c0 c q]
    by_cases q2 : c % 8 = 0
    · simp [q2]
    · have : 1 ≤ c := by omega
      simp [q2, q, this]
  · rw [decide_eq_false q]; simp
section GR1
variable {E : gk_E} {d : Nat} {h : gk_H} {K : Int64 → gk_H → Prop} {x : Int64}
theorem s_gr_up (hk : K (gUp x) h) : gk_cl2 E (d + 1) jgr_up [.long x] h K := gk_cl_mk (x_gr_up hk)
theorem s_gr_down (hk : K (gDn x) h) : gk_cl2 E (d + 1) jgr_down [.long x] h K := gk_cl_mk (x_gr_down hk)
theorem s_gr_left (hk : K (gLf x) h) : gk_cl2 E (d + 1) jgr_left [.long x] h K := gk_cl_mk (x_gr_left hk)
theorem s_gr_right (hk : K (gRt x) h) : gk_cl2 E (d + 1) jgr_right [.long x] h K := gk_cl_mk (x_gr_right hk)
theorem s_gr_beside (hk : K (gBs x) h) : gk_cl2 E (d + 2) jgr_beside [.long x] h K := by
  refine gk_cl_mk (x_gr_beside ?_)
  unfold w_gr_beside
  exact s_gr_up (s_gr_down (s_gr_left (s_gr_right hk)))
end GR1
theorem s_gr_isDry {E : gk_E} {d : Nat} {h : gk_H} {K : Int32 → gk_H → Prop} {x : Int64} {c : Nat} (hc : c < 64) (hk : K (nb_b (nb_bitL x c)) h) : gk_ci E (d + 1) jgr_isDry [.long x, .int (nI c)] h K := by
  refine gk_ci_mk (x_gr_isDry ?_)
  unfold w_gr_isDry
  have e : ((x.toUInt64 >>> ((nI c).toInt64.toUInt64 &&& Int64.toUInt64 63)).toInt64 &&& 1 = 0) ↔ nb_bitL x c = false := by
    constructor
    · intro q
      have := bL_and ((x.toUInt64 >>> ((nI c).toInt64.toUInt64 &&& Int64.toUInt64 63)).toInt64) 1 0
      rw [q, bL_0, bL_shr x hc, bL_1] at this
      simpa using this.symm
    · intro q
      refine bL_eq0 fun i _ => ?_
      rw [bL_and, bL_shr x hc, bL_1]
      by_cases q2 : i = 0
      · subst q2; simp [q]
      · simp [q2]
  rw [nb_cmp0, e]
  refine ⟨fun q => ⟨Or.inl rfl, ?_⟩, fun q => ⟨Or.inr rfl, ?_⟩⟩
  · rw [q] at hk; exact hk
  · rw [Bool.not_eq_false] at q; rw [q] at hk; exact hk
/-! sums -/
def sm (f : Nat → Nat) : Nat → Nat
  | 0 => 0
  | n + 1 => sm f n + f n
theorem sm_add (f g : Nat → Nat) : ∀ n, sm (fun i => f i + g i) n = sm f n + sm g n := by
  intro n
  induction n with
  | zero => rfl
  | succ n ih => rw [sm, sm, sm, ih]; omega
theorem sm_congr {f g : Nat → Nat} : ∀ {n : Nat}, (∀ i, i < n → f i = g i) → sm f n = sm g n := by
  intro n
  induction n with
  | zero => intro _; rfl
  | succ n ih => intro h; rw [sm, sm, ih (fun i hi => h i (by omega)), h n (by omega)]
theorem sm_le {f : Nat → Nat} {b : Nat} (h : ∀ i, f i ≤ b) : ∀ n, sm f n ≤ b * n := by
  intro n
  induction n with
  | zero => exact Nat.zero_le _
  | succ n ih => rw [sm, Nat.mul_succ]; have := h n; omega
theorem sm_cnt (g : Nat → Bool) : ∀ n, nb_cnt g n = sm (fun i => (g i).toNat) n := by
  intro n
  induction n with
  | zero => rfl
  | succ n ih => rw [nb_cnt, sm, ih]
theorem sm_split (f : Nat → Nat) (m : Nat) : ∀ n, sm f (m + n) = sm f m + sm (fun i => f (m + i)) n := by
  intro n
  induction n with
  | zero => rfl
  | succ n ih => rw [← Nat.add_assoc, sm, ih, sm]; omega
theorem sm_8 (f : Nat → Nat) : ∀ n, sm f (8 * n) = sm (fun r => sm (fun i => f (8 * r + i)) 8) n := by
  intro n
  induction n with
  | zero => rfl
  | succ n ih => rw [Nat.mul_succ, sm_split, ih]; rfl
/-! how wet it is around a cell; edges -/
def wet (f : Nat → Bool) (c : Nat) : Nat := (!f (c + 8)).toNat + (!(decide (8 ≤ c) && f (c - 8))).toNat + (!(decide (c % 8 ≠ 7) && f (c + 1))).toNat + (!(decide (c % 8 ≠ 0) && f (c - 1))).toNat
theorem wet_le (f : Nat → Bool) (c : Nat) : wet f c ≤ 4 := by
  unfold wet
  have : ∀ b : Bool, b.toNat ≤ 1 := by intro b; cases b <;> decide
  have h1 := this (!f (c + 8))
  have h2 := this (!(decide (8 ≤ c) && f (c - 8)))
  have h3 := this (!(decide (c % 8 ≠ 7) && f (c + 1)))
  have h4 := this (!(decide (c % 8 ≠ 0) && f (c - 1)))
  omega
def edg (f : Nat → Bool) : Nat := sm (fun c => if f c then wet f c else 0) 64
theorem edg_le (f : Nat → Bool) : edg f ≤ 256 := by
  refine sm_le (b := 4) (fun i => ?_) 64
  split
  · exact wet_le _ _
  · exact Nat.zero_le _
theorem s_gr_edges {E : gk_E} {d : Nat} {h : gk_H} {K : Int32 → gk_H → Prop} {x : Int64} (hk : K (nI (edg (nb_bitL x))) h) : gk_ci E (d + 2) jgr_edges [.long x] h K := by
  refine gk_ci_mk (x_gr_edges ?_)
  unfold w_gr_edges
  refine s_gr_up (s_jl_bitCount (s_gr_down (s_jl_bitCount (s_gr_left (s_jl_bitCount (s_gr_right (s_jl_bitCount ?_)))))))
  rw [nI_add, nI_add, nI_add]
  have e : nb_onesL (x &&& (gUp x ^^^ -1)) + nb_onesL (x &&& (gDn x ^^^ -1)) + nb_onesL (x &&& (gLf x ^^^ -1)) + nb_onesL (x &&& (gRt x ^^^ -1)) = edg (nb_bitL x) := by
    unfold nb_onesL
    rw [sm_cnt, sm_cnt, sm_cnt, sm_cnt, ← sm_add, ← sm_add, ← sm_add]
    refine sm_congr fun c hc => ?_
    simp only [bL_and, bL_not, bL_up, bL_dn, bL_lf, bL_rt, decide_eq_true hc, Bool.true_and]
    cases nb_bitL x c with
    | false => rfl
    | true => rfl
  rw [e]
  exact hk
theorem s_gr_wetBeside {E : gk_E} {d : Nat} {h : gk_H} {K : Int32 → gk_H → Prop} {x : Int64} {c : Nat} (hc : c < 64) (hk : K (nI (wet (nb_bitL x) c)) h) : gk_ci E (d + 3) jgr_wetBeside [.long x, .int (nI c)] h K := by
  refine gk_ci_mk (x_gr_wetBeside ?_)
  unfold w_gr_wetBeside
  refine s_gr_beside (s_jl_bitCount ?_)
  have e : nb_onesL (gBs ((1 : Int64) <<< ((nI c).toInt64 &&& 63)) &&& x) + wet (nb_bitL x) c = 4 := by
    have tb : ∀ (f : Nat → Bool) (k : Nat) , (∀ i, i < 64 → f i = true → False) → nb_cnt f 64 = 0 := by
      intro f k hf
      have : nb_cnt f 64 = nb_cnt (fun _ => false) 64 := nb_cnt_congr fun i hi => by
        cases e : f i with
        | false => rfl
        | true => exact absurd (hf i hi e) id
      rw [this]; decide
    have one : ∀ (k : Nat) (b : Bool), nb_cnt (fun i => decide (i = k) && b) 64 = if k < 64 then b.toNat else 0 := by
      intro k b
      have g : ∀ n, nb_cnt (fun i => decide (i = k) && b) n = if k < n then b.toNat else 0 := by
        intro n
        induction n with
        | zero => rfl
        | succ n ih =>
          rw [nb_cnt, ih]
          by_cases q : n = k
          · subst q; simp
          · by_cases q2 : k < n
            · have : k < n + 1 := by omega
              simp [q, q2, this]
            · have : ¬ k < n + 1 := by omega
              simp [q, q2, this]
      exact g 64
    unfold nb_onesL
    have e1 : nb_cnt (nb_bitL (gBs ((1 : Int64) <<< ((nI c).toInt64 &&& 63)) &&& x)) 64 = sm (fun i => ((decide (i = c + 8) && (nb_bitL x (c + 8)))).toNat + (decide (i = c - 8) && (decide (8 ≤ c) && nb_bitL x (c - 8))).toNat + (decide (i = c + 1) && (decide (c % 8 ≠ 7) && nb_bitL x (c + 1))).toNat + (decide (i = c - 1) && (decide (c % 8 ≠ 0) && nb_bitL x (c - 1))).toNat) 64 := by
      rw [sm_cnt]
      refine sm_congr fun i hi => ?_
      rw [bL_and]
      unfold gBs
      simp only [bL_or, bL_up, bL_dn, bL_lf, bL_rt, bL_one hc, decide_eq_true hi, Bool.true_and]
      by_cases q1 : i + 8 = c
      · have a1 : i = c - 8 := by omega
        have a2 : ¬ i = c + 8 := by omega
        have a3 : ¬ i = c + 1 := by omega
        have a4 : ¬ i = c - 1 := by omega
        have a5 : 8 ≤ c := by omega
        simp [a1, a5, show ¬ c - 8 = c + 8 by omega, show ¬ c - 8 = c + 1 by omega, show ¬ c - 8 = c - 1 by omega, show c - 8 + 8 = c by omega]
      · by_cases q2 : i = c + 8
        · subst q2
          simp [show ¬ c + 8 = c - 8 by omega, show ¬ c + 8 = c - 1 by omega]
        · by_cases q3 : i + 1 = c ∧ i % 8 ≠ 7
          · have a1 : i = c - 1 := by omega
            have a2 : c % 8 ≠ 0 := by omega
            have a3 : ¬ c - 1 = c - 8 ∨ ¬ 8 ≤ c := by omega
            have a4 : (c - 1) % 8 ≠ 7 := by omega
            subst a1
            simp [a2, a4, show c - 1 + 1 = c by omega, show ¬ c - 1 = c + 8 by omega, show ¬ c - 1 = c + 1 by omega, show ¬ c - 1 + 8 = c by omega]
            rcases a3 with a3 | a3
            · simp [a3]
            · simp [a3]
          · by_cases q4 : i = c + 1 ∧ i % 8 ≠ 0
            · have a1 : i = c + 1 := q4.1
              have a2 : c % 8 ≠ 7 := by omega
              have a4 : (c + 1) % 8 ≠ 0 := by omega
              subst a1
              simp [a2, a4, show ¬ c + 1 = c - 8 by omega, show ¬ c + 1 = c - 1 by omega]
            · have b1 : (decide (i + 8 = c)) = false := decide_eq_false q1
              have b2 : (decide (8 ≤ i) && decide (i - 8 = c)) = false := by
                by_cases z : 8 ≤ i
                · rw [decide_eq_false (p := i - 8 = c) (by omega)]; simp
                · simp [z]
              have b3 : (decide (i % 8 ≠ 7) && decide (i + 1 = c)) = false := by
                by_cases z : i + 1 = c
                · have : ¬ i % 8 ≠ 7 := fun w => q3 ⟨z, w⟩
                  rw [decide_eq_false this]; rfl
                · rw [decide_eq_false z]; simp
              have b4 : (decide (i % 8 ≠ 0) && decide (i - 1 = c)) = false := by
                by_cases z : i % 8 ≠ 0
                · rw [decide_eq_false (p := i - 1 = c) (by omega)]; simp
                · rw [decide_eq_false z]; rfl
              rw [b1, b2, b3, b4]
              have c1 : (decide (i = c + 8)) = false := decide_eq_false q2
              have c2 : (decide (i = c - 8) && (decide (8 ≤ c) && nb_bitL x (c - 8))) = false := by
                by_cases z : 8 ≤ c
                · rw [decide_eq_false (p := i = c - 8) (by omega)]; rfl
                · simp [z]
              have c3 : (decide (i = c + 1) && (decide (c % 8 ≠ 7) && nb_bitL x (c + 1))) = false := by
                by_cases z : i = c + 1
                · have : ¬ c % 8 ≠ 7 := by omega
                  rw [decide_eq_false this]; simp
                · rw [decide_eq_false z]; rfl
              have c4 : (decide (i = c - 1) && (decide (c % 8 ≠ 0) && nb_bitL x (c - 1))) = false := by
                by_cases z : i = c - 1
                · have : ¬ c % 8 ≠ 0 := by omega
                  rw [decide_eq_false this]; simp
                · rw [decide_eq_false z]; rfl
              rw [c1, c2, c3, c4]; rfl
    rw [e1, sm_add, sm_add, sm_add, ← sm_cnt, ← sm_cnt, ← sm_cnt, ← sm_cnt, one, one, one, one]
    unfold wet
    have z1 : (if c + 8 < 64 then (nb_bitL x (c + 8)).toNat else 0) = (nb_bitL x (c + 8)).toNat := by
      by_cases q : c + 8 < 64
      · rw [if_pos q]
      · rw [if_neg q, bL_ge (by omega)]; rfl
    have z3 : (if c + 1 < 64 then (decide (c % 8 ≠ 7) && nb_bitL x (c + 1)).toNat else 0) = (decide (c % 8 ≠ 7) && nb_bitL x (c + 1)).toNat := by
      by_cases q : c + 1 < 64
      · rw [if_pos q]
      · rw [if_neg q, bL_ge (by omega)]; simp
    rw [z1, z3, if_pos (show c - 8 < 64 by omega), if_pos (show c - 1 < 64 by omega)]
    have nt : ∀ b : Bool, b.toNat + (!b).toNat = 1 := by intro b; cases b <;> rfl
    have n1 := nt (nb_bitL x (c + 8))
    have n2 := nt (decide (8 ≤ c) && nb_bitL x (c - 8))
    have n3 := nt (decide (c % 8 ≠ 7) && nb_bitL x (c + 1))
    have n4 := nt (decide (c % 8 ≠ 0) && nb_bitL x (c - 1))
    omega
  have e2 : (4 : Int32) - nI (nb_onesL (gBs ((1 : Int64) <<< ((nI c).toInt64 &&& 63)) &&& x)) = nI (wet (nb_bitL x) c) := by
    show nI 4 - _ = _
    rw [pk_sub (by omega)]
    congr 1
    omega
  rw [e2]
  exact hk
