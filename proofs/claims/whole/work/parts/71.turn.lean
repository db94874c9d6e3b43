/-! grounds by their bits; turning -/
def gMkN (f : Nat → Bool) : Nat → Int64
  | 0 => 0
  | n + 1 => gMkN f n ||| (if f n then (1 : Int64) <<< ((nI n).toInt64 &&& 63) else 0)
theorem bL_mkN (f : Nat → Bool) : ∀ {n : Nat}, n ≤ 64 → ∀ c, nb_bitL (gMkN f n) c = (decide (c < n) && f c) := by
  intro n
  induction n with
  | zero => intro _ c; rw [gMkN, bL_0]; simp
  | succ n ih =>
    intro hn c
    rw [gMkN, bL_or, ih (by omega) c]
    by_cases q : f n = true
    · rw [if_pos q, bL_one (by omega)]
      by_cases z : c = n
      · subst z; simp [q]
      · have : c < n ↔ c < n + 1 := by omega
        simp [z, this]
    · rw [if_neg q, bL_0]
      by_cases z : c = n
      · subst z
        have : f c = false := by simpa using q
        simp [this]
      · have : c < n ↔ c < n + 1 := by omega
        simp [this]
def gMk (f : Nat → Bool) : Int64 := gMkN f 64
theorem bL_mk {f : Nat → Bool} {c : Nat} (hc : c < 64) : nb_bitL (gMk f) c = f c := by
  unfold gMk
  rw [bL_mkN f (Nat.le_refl _), decide_eq_true hc, Bool.true_and]
theorem lr_inj {x y : Int64} : (∀ r, r < 8 → lr x r = lr y r) ↔ x = y := by
  constructor
  · intro q
    refine bL_ext fun c hc => ?_
    have e := lr_bit (g := x) (r := c / 8) (c := c % 8)
    have e2 := lr_bit (g := y) (r := c / 8) (c := c % 8)
    rw [q (c / 8) (by omega), e2, decide_eq_true (by omega), Bool.true_and, Bool.true_and, show 8 * (c / 8) + c % 8 = c by omega] at e
    exact e.symm
  · rintro rfl r _; rfl
def tcS (s : Nat × Nat) : Nat → Nat × Nat
  | 0 => s
  | i + 1 => ((tcS s i).2, 7 - (tcS s i).1)
def tc (c t : Nat) : Nat := 8 * (tcS (c / 8, if t < 4 then c % 8 else 7 - c % 8) (t % 4)).1 + (tcS (c / 8, if t < 4 then c % 8 else 7 - c % 8) (t % 4)).2
theorem tcS_8 {s : Nat × Nat} (h1 : s.1 < 8) (h2 : s.2 < 8) : ∀ i, (tcS s i).1 < 8 ∧ (tcS s i).2 < 8 := by
  intro i
  induction i with
  | zero => exact ⟨h1, h2⟩
  | succ i ih => exact ⟨ih.2, by show 7 - (tcS s i).1 < 8; omega⟩
def ro (t : Nat) : Nat := 8 * (7 - t % 8) + t / 8
def mi (t : Nat) : Nat := 8 * (t / 8) + (7 - t % 8)
def roN : Nat → Nat → Nat
  | 0, t => t
  | k + 1, t => roN k (ro t)
def pr (t c : Nat) : Nat := if t < 4 then roN (t % 4) c else mi (roN (t % 4) c)
set_option maxRecDepth 100000 in
theorem tc_pr : ∀ t, t < 8 → ∀ c, c < 64 → tc (pr t c) t = c ∧ pr t (tc c t) = c ∧ pr t c < 64 ∧ tc c t < 64 := by decide +kernel
section TURN
variable {E : gk_E} {d : Nat} {h : gk_H}
theorem s_gr_turnedCell {K : Int32 → gk_H → Prop} {c t : Nat} (hc : c < 64) (ht : t < 8) (hk : K (nI (tc c t)) h) : gk_ci E (d + 1) jgr_turnedCell [.int (nI c), .int (nI t)] h K := by
  have e1 : nI c / 8 = nI (c / 8) := pk_div (d := 8) (by omega) (by omega) (by omega)
  have e2 : nI c - nI c / 8 * 8 = nI (c % 8) := pk_rem (d := 8) (by omega) (by omega) (by omega)
  have e3 : nI t - nI t / 4 * 4 = nI (t % 4) := pk_rem (d := 4) (by omega) (by omega) (by omega)
  have go : ∀ s : Nat × Nat, s.1 < 8 → s.2 < 8 → s = (c / 8, if t < 4 then c % 8 else 7 - c % 8) → g_gr_turnedCell_23 E d (gk_qi K) (nI t) (nI s.1) (nI s.2) (nI 0) h := by
    intro s h1 h2 es
    refine lp_up (N := t % 4) (fun j (_ : Unit) => g_gr_turnedCell_23 E d (gk_qi K) (nI t) (nI (tcS s j).1) (nI (tcS s j).2) (nI j) h) (fun _ _ => True) ?_ ?_ 0 () (Nat.zero_le _) trivial
    · intro j _ hj _ ih
      have b := tcS_8 h1 h2 j
      refine x_gr_turnedCell_23 ⟨by decide, ?_⟩
      rw [e3]
      refine pk_le (t % 4) j (fun q => by omega) (fun _ => fe (fe (fe (fe ?_))))
      rw [nI_1, show (7 : Int32) - nI (tcS s j).1 = nI (7 - (tcS s j).1) from pk_sub (a := 7) (by omega)]
      exact ih () trivial
    · intro _ _
      refine x_gr_turnedCell_23 ⟨by decide, ?_⟩
      rw [e3]
      refine pk_le (t % 4) (t % 4) (fun _ => ?_) (fun q => by omega)
      show K (nI 8 * nI (tcS s (t % 4)).1 + nI (tcS s (t % 4)).2) h
      rw [nI_mulN, nI_add, es]
      exact hk
  refine gk_ci_mk (x_gr_turnedCell ?_)
  unfold w_gr_turnedCell
  rw [e2, e1]
  refine ⟨by decide, fe ⟨by decide, fe (pk_lt t 4 (fun q => fe ?_) (fun q => fe (fe ?_)))⟩⟩
  · exact go (c / 8, c % 8) (by omega) (by omega) (by rw [if_pos q])
  · rw [show (7 : Int32) - nI (c % 8) = nI (7 - c % 8) from pk_sub (a := 7) (by omega)]
    exact go (c / 8, 7 - c % 8) (by omega) (by omega) (by rw [if_neg (by omega)])
theorem s_gr_turnedBy {K : Int64 → gk_H → Prop} {g : Int64} {t : Nat} (ht : t < 8) (hk : K (gMk (fun c => nb_bitL g (pr t c))) h) : gk_cl2 E (d + 2) jgr_turnedBy [.long g, .int (nI t)] h K := by
  refine gk_cl_mk (x_gr_turnedBy (fe (fe ?_)))
  refine lp_up (N := 64) (fun j (s : Int64) => g_gr_turnedBy_5 E (d + 1) (gk_ql K) g (nI t) s (nI j) h) (fun j s => ∀ c, c < 64 → nb_bitL s c = (decide (pr t c < j) && nb_bitL g (pr t c))) ?_ ?_ 0 0 (by decide) (fun c _ => by rw [bL_0]; simp)
  · intro j s hj hi ih
    have cp : ∀ c, c < 64 → (pr t c = j ↔ c = tc j t) := fun c hc => by
      constructor
      · intro q; rw [← q]; exact (tc_pr t ht c hc).1.symm
      · intro q; rw [q]; exact (tc_pr t ht j hj).2.1
    refine x_gr_turnedBy_5 (pk_le 64 j (fun q => by omega) (fun _ => s_gr_isDry hj (bsel (fun q => fe ?_) (fun q => s_gr_turnedCell hj ht (fe (fe ?_))))))
    · rw [nI_1]
      refine ih _ fun c hc => ?_
      rw [hi c hc]
      by_cases z : pr t c = j
      · rw [z, q]; simp
      · have : pr t c < j ↔ pr t c < j + 1 := by omega
        simp [this]
    · rw [nI_1]
      refine ih _ fun c hc => ?_
      rw [bL_or, bL_one (tc_pr t ht j hj).2.2.2, hi c hc]
      by_cases z : pr t c = j
      · rw [z, q, decide_eq_true ((cp c hc).mp z)]; simp
      · have w : ¬ c = tc j t := fun w => z ((cp c hc).mpr w)
        have : pr t c < j ↔ pr t c < j + 1 := by omega
        simp [this, w]
  · intro s hi
    refine x_gr_turnedBy_5 (pk_le 64 64 (fun _ => ?_) (fun q => by omega))
    have : s = gMk (fun c => nb_bitL g (pr t c)) := bL_ext fun c hc => by
      rw [bL_mk hc, hi c hc, decide_eq_true (tc_pr t ht c hc).2.2.1, Bool.true_and]
    rw [this]
    exact hk
def gMir (g : Int64) : Int64 := gMk (fun t => nb_bitL g (mi t))
def gRot (g : Int64) : Int64 := gMk (fun t => nb_bitL g (ro t))
theorem OW_set {k r : Nat} {y : Int32} {j : Nat} : (gk_ha h k j y).2.1 k r = if r = j then y else h.2.1 k r := by
  rw [ha_a]
  by_cases z : r = j
  · rw [if_pos ⟨rfl, z⟩, if_pos z]
  · rw [if_neg (fun w => z w.2), if_neg z]
theorem s_mo_mirrors {K : gk_H → Prop} {g : Int64} (hg : OW h 135 g) (hk : ∀ h', fr S_own h h' → OW h' 135 (gMir g) → K h') : gk_cv E (d + 2) jmo_mirrors [.ref 112] h K := by
  refine gk_cv_mk (x_mo_mirrors (fe ?_))
  refine lp_up (N := 8) (fun j (s : gk_H) => g_mo_mirrors_2 E (d + 1) (gk_qv K) (nI j) s) (fun j s => fr S_own h s ∧ ∀ r, r < 8 → s.2.1 135 r = if r < j then lr (gMir g) r else lr g r) ?_ ?_ 0 h (by decide) ⟨fr_rf, fun r hr => by rw [if_neg (by omega)]; exact hg r hr⟩
  · rintro j s hj ⟨i1, i2⟩ ih
    refine x_mo_mirrors_2 (pk_le 8 j (fun q => by omega) (fun _ => fe (fe ?_)))
    refine lp_up (N := 8) (fun c (v : Int32) => g_mo_mirrors_12 E (d + 1) (gk_qv K) (nI j) v (nI c) s) (fun c v => ∀ i, i < 32 → nb_bit v i = (decide (i < 8) && (decide (7 - i < c) && nb_bitL g (8 * j + (7 - i))))) ?_ ?_ 0 0 (by decide) (fun i _ => by rw [bI_0]; simp)
    · intro c v hc hv ihc
      refine x_mo_mirrors_12 (pk_le 8 c (fun q => by omega) (fun _ => ⟨vp_in_nI hj (by decide), ?_⟩))
      rw [nI_clamp (by omega), i2 j hj, if_neg (by omega)]
      refine s_mo_has (by omega) ?_
      rw [lr_bit, decide_eq_true hc, Bool.true_and]
      refine bsel (fun q => fe ?_) (fun q => fe (fe ?_))
      · rw [nI_1]
        refine ihc _ fun i hi => ?_
        rw [hv i hi]
        by_cases z : i < 8 ∧ 7 - i = c
        · rw [z.2, q]; simp
        · by_cases y : i < 8
          · have : 7 - i < c ↔ 7 - i < c + 1 := by omega
            simp [this]
          · simp [y]
      · rw [nI_1, show (7 : Int32) - nI c = nI (7 - c) from pk_sub (a := 7) (by omega)]
        refine ihc _ fun i hi => ?_
        rw [bI_or, bI_one (by omega), hv i hi]
        by_cases z : i < 8 ∧ 7 - i = c
        · have e : i = 7 - c := by omega
          rw [z.2, q, decide_eq_true z.1, decide_eq_true e]; simp
        · by_cases y : i < 8
          · have : 7 - i < c ↔ 7 - i < c + 1 := by omega
            have e : ¬ i = 7 - c := by omega
            simp [this, e]
          · have e : ¬ i = 7 - c := by omega
            simp [y, e]
    · intro v hv
      refine x_mo_mirrors_12 (pk_le 8 8 (fun _ => ⟨vp_in_nI hj (by decide), fe ?_⟩) (fun q => by omega))
      rw [nI_1, nI_clamp (by omega)]
      refine ih _ ⟨fr_tr i1 (fr_ha (Or.inl rfl)), fun r hr => ?_⟩
      rw [OW_set]
      by_cases z : r = j
      · rw [if_pos z, if_pos (by omega), z]
        refine bI_ext fun i hi => ?_
        rw [hv i hi, lr_bit]
        by_cases y : i < 8
        · unfold gMir mi
          rw [bL_mk (by omega), decide_eq_true y, decide_eq_true (by omega), Bool.true_and, show (8 * j + i) / 8 = j by omega, show (8 * j + i) % 8 = i by omega]
        · simp [y]
      · rw [if_neg z, i2 r hr]
        by_cases y : r < j
        · rw [if_pos y, if_pos (by omega)]
        · rw [if_neg y, if_neg (by omega)]
  · rintro s ⟨i1, i2⟩
    refine x_mo_mirrors_2 (pk_le 8 8 (fun _ => hk s i1 (fun r hr => ?_)) (fun q => by omega))
    rw [i2 r hr, if_pos hr]
theorem s_mo_turnsRight {K : gk_H → Prop} {g : Int64} (hg : OW h 135 g) (hk : ∀ h', fr S_own h h' → OW h' 135 (gRot g) → K h') : gk_cv E (d + 2) jmo_turnsRight [.ref 112] h K := by
  refine gk_cv_mk (x_mo_turnsRight (fe ?_))
  refine lp_up (N := 8) (fun j (s : gk_H) => g_mo_turnsRight_2 E (d + 1) (gk_qv K) (nI j) s) (fun j s => fr S_own h s ∧ OW s 135 g ∧ ∀ r, r < j → s.2.1 136 r = lr g r) ?_ ?_ 0 h (by decide) ⟨fr_rf, hg, fun r hr => by omega⟩
  · rintro j s hj ⟨i1, i2, i3⟩ ih
    refine x_mo_turnsRight_2 (pk_le 8 j (fun q => by omega) (fun _ => ⟨vp_in_nI hj (by decide), vp_in_nI hj (by decide), fe (fe ?_)⟩))
    rw [nI_clamp (by omega), nI_1, i2 j hj]
    refine ih _ ⟨fr_tr i1 (fr_ha (Or.inr rfl)), fun r hr => ?_, fun r hr => ?_⟩
    · rw [ha_a, if_neg (fun w => absurd w.1 (by decide))]; exact i2 r hr
    · rw [OW_set]
      by_cases z : r = j
      · rw [if_pos z, z]
      · rw [if_neg z]; exact i3 r (by omega)
  · rintro s ⟨i1, i2, i3⟩
    refine x_mo_turnsRight_2 (pk_le 8 8 (fun _ => fe ?_) (fun q => by omega))
    refine lp_up (N := 8) (fun j (s : gk_H) => g_mo_turnsRight_28 E (d + 1) (gk_qv K) (nI j) s) (fun j s => fr S_own h s ∧ OW s 136 g ∧ ∀ r, r < j → s.2.1 135 r = lr (gRot g) r) ?_ ?_ 0 s (by decide) ⟨i1, i3, fun r hr => by omega⟩
    · clear i1 i2 i3 s
      rintro j s hj ⟨i1, i2, i3⟩ ih
      refine x_mo_turnsRight_28 (pk_le 8 j (fun q => by omega) (fun _ => fe (fe ?_)))
      refine lp_up (N := 8) (fun c (v : Int32) => g_mo_turnsRight_38 E (d + 1) (gk_qv K) (nI j) v (nI c) s) (fun c v => ∀ i, i < 32 → nb_bit v i = (decide (i < c) && nb_bitL g (8 * (7 - i) + j))) ?_ ?_ 0 0 (by decide) (fun i _ => by rw [bI_0]; simp)
      · intro c v hc hv ihc
        refine x_mo_turnsRight_38 (pk_le 8 c (fun q => by omega) (fun _ => ?_))
        rw [show (7 : Int32) - nI c = nI (7 - c) from pk_sub (a := 7) (by omega), nI_clamp (by omega), i2 (7 - c) (by omega)]
        refine ⟨vp_in_nI (by omega) (by decide), s_mo_has (by omega) ?_⟩
        rw [lr_bit, decide_eq_true hj, Bool.true_and]
        refine bsel (fun q => fe ?_) (fun q => fe (fe ?_))
        · rw [nI_1]
          refine ihc _ fun i hi => ?_
          rw [hv i hi]
          by_cases z : i = c
          · rw [z, q]; simp
          · have : i < c ↔ i < c + 1 := by omega
            simp [this]
        · rw [nI_1]
          refine ihc _ fun i hi => ?_
          rw [bI_or, bI_one (by omega), hv i hi]
          by_cases z : i = c
          · rw [z, q]; simp
          · have : i < c ↔ i < c + 1 := by omega
            simp [this, z]
      · intro v hv
        refine x_mo_turnsRight_38 (pk_le 8 8 (fun _ => ⟨vp_in_nI hj (by decide), fe (fe ?_)⟩) (fun q => by omega))
        rw [nI_1, nI_clamp (by omega)]
        refine ih _ ⟨fr_tr i1 (fr_ha (Or.inl rfl)), fun r hr => ?_, fun r hr => ?_⟩
        · rw [ha_a, if_neg (fun w => absurd w.1 (by decide))]; exact i2 r hr
        · rw [OW_set]
          by_cases z : r = j
          · rw [if_pos z, z]
            refine bI_ext fun i hi => ?_
            rw [hv i hi, lr_bit]
            by_cases y : i < 8
            · unfold gRot ro
              rw [bL_mk (by omega), show (8 * j + i) / 8 = j by omega, show (8 * j + i) % 8 = i by omega]
            · simp [y]
          · rw [if_neg z]; exact i3 r (by omega)
    · rintro s ⟨i1, i2, i3⟩
      exact x_mo_turnsRight_28 (pk_le 8 8 (fun _ => hk s i1 i3) (fun q => by omega))
end TURN
/-- turned t times to the right -/
def gRoN (g : Int64) : Nat → Int64
  | 0 => g
  | k + 1 => gRot (gRoN g k)
theorem ro_lt {t : Nat} (h : t < 64) : ro t < 64 := by unfold ro; omega
theorem roN_lt : ∀ {k t : Nat}, t < 64 → roN k t < 64 := by
  intro k
  induction k with
  | zero => intro t h; exact h
  | succ k ih => intro t h; exact ih (ro_lt h)
theorem mi_lt {t : Nat} (h : t < 64) : mi t < 64 := by unfold mi; omega
theorem bL_roN {g : Int64} : ∀ {k c : Nat}, c < 64 → nb_bitL (gRoN g k) c = nb_bitL g (roN k c) := by
  intro k
  induction k with
  | zero => intro c _; rfl
  | succ k ih =>
    intro c hc
    rw [gRoN]
    unfold gRot
    rw [bL_mk hc, ih (ro_lt hc)]
    rfl
theorem gT_eq {g : Int64} {t : Nat} : gMk (fun c => nb_bitL g (pr t c)) = gRoN (if t < 4 then g else gMir g) (t % 4) := by
  refine bL_ext fun c hc => ?_
  rw [bL_mk hc, bL_roN hc]
  unfold pr
  by_cases q : t < 4
  · rw [if_pos q, if_pos q]
  · rw [if_neg q, if_neg q]
    unfold gMir
    rw [bL_mk (roN_lt hc)]
