/-! pushed into the corner; turned -/
def corOf (x : Int64) (a b : Nat) : Prop := (a < 8 ∧ b < 8) ∧ ((∃ c, c < 8 ∧ nb_bitL x (8 * a + c) = true) ∧ ∀ i, i < 8 * a → nb_bitL x i = false) ∧ (∃ r, r < 8 ∧ nb_bitL x (8 * r + b) = true) ∧ ∀ r c, r < 8 → c < b → nb_bitL x (8 * r + c) = false
def cor (x y : Int64) : Prop := ∃ a b, corOf x a b ∧ ∀ r c, r < 8 → c < 8 → nb_bitL y (8 * r + c) = (decide (c + b < 8) && nb_bitL x (8 * (r + a) + (c + b)))
theorem corOf_u {x : Int64} {a b a' b' : Nat} (h : corOf x a b) (h' : corOf x a' b') : a = a' ∧ b = b' := by
  obtain ⟨⟨h1, h2⟩, ⟨⟨c, c1, c2⟩, h3⟩, ⟨r, r1, r2⟩, h4⟩ := h
  obtain ⟨⟨k1, k2⟩, ⟨⟨c', c1', c2'⟩, k3⟩, ⟨r', r1', r2'⟩, k4⟩ := h'
  constructor
  · rcases Nat.lt_trichotomy a a' with q | q | q
    · have := k3 (8 * a + c) (by omega); rw [c2] at this; cases this
    · exact q
    · have := h3 (8 * a' + c') (by omega); rw [c2'] at this; cases this
  · rcases Nat.lt_trichotomy b b' with q | q | q
    · have := k4 r b r1 q; rw [r2] at this; cases this
    · exact q
    · have := h4 r' b' r1' q; rw [r2'] at this; cases this
theorem cor_u {x y y' : Int64} (h : cor x y) (h' : cor x y') : y = y' := by
  obtain ⟨a, b, h1, h2⟩ := h
  obtain ⟨a', b', k1, k2⟩ := h'
  obtain ⟨rfl, rfl⟩ := corOf_u h1 k1
  refine bL_ext fun c hc => ?_
  have e1 := h2 (c / 8) (c % 8) (by omega) (by omega)
  have e2 := k2 (c / 8) (c % 8) (by omega) (by omega)
  rw [show 8 * (c / 8) + c % 8 = c by omega] at e1 e2
  rw [e1, e2]
theorem low8 {x : Int64} : (∀ c, c < 8 → nb_bitL x c = false) ↔ x &&& 255 = 0 := by
  constructor
  · intro q
    refine bL_eq0 fun c hc => ?_
    rw [bL_and, bL_row0 c hc]
    by_cases z : c < 8
    · rw [q c z]; rfl
    · simp [z]
  · intro q c hc
    have := bL_and x 255 c
    rw [q, bL_0, bL_row0 c (by omega), decide_eq_true hc, Bool.and_true] at this
    exact this.symm
theorem col8 {x : Int64} : (∀ r, r < 8 → nb_bitL x (8 * r) = false) ↔ x &&& 72340172838076673 = 0 := by
  constructor
  · intro q
    refine bL_eq0 fun c hc => ?_
    rw [bL_and, bL_col0 c hc]
    by_cases z : c % 8 = 0
    · have := q (c / 8) (by omega)
      rw [show 8 * (c / 8) = c by omega] at this
      rw [this]; rfl
    · simp [z]
  · intro q r hr
    have := bL_and x 72340172838076673 (8 * r)
    rw [q, bL_0, bL_col0 _ (by omega), decide_eq_true (by omega), Bool.and_true] at this
    exact this.symm
theorem ex_of {P : Nat → Bool} {n : Nat} (h : ¬ ∀ i, i < n → P i = false) : ∃ i, i < n ∧ P i = true := by
  apply Classical.byContradiction
  intro q
  refine h fun i hi => ?_
  cases e : P i with
  | false => rfl
  | true => exact absurd ⟨i, hi, e⟩ q
def upN (x : Int64) : Nat → Int64
  | 0 => x
  | n + 1 => gUp (upN x n)
theorem bL_upN {x : Int64} : ∀ {n c : Nat}, nb_bitL (upN x n) c = nb_bitL x (c + 8 * n) := by
  intro n
  induction n with
  | zero => intro c; rfl
  | succ n ih => intro c; rw [upN, bL_up, ih, show c + 8 + 8 * n = c + 8 * (n + 1) by omega]
/-- the columns from b on, once the rows are pushed -/
theorem cor_of {x z y : Int64} {a b : Nat} (ha : a < 8) (hr : ∃ c, c < 8 ∧ nb_bitL x (8 * a + c) = true) (hr0 : ∀ i, i < 8 * a → nb_bitL x i = false) (hz : ∀ c, nb_bitL z c = nb_bitL x (c + 8 * a)) (hb : b < 8) (hc : ∃ r, r < 8 ∧ nb_bitL z (8 * r + b) = true) (hc0 : ∀ r c, r < 8 → c < b → nb_bitL z (8 * r + c) = false) (hy : ∀ r c, r < 8 → c < 8 → nb_bitL y (8 * r + c) = (decide (c + b < 8) && nb_bitL z (8 * r + (c + b)))) : cor x y := by
  refine ⟨a, b, ⟨⟨ha, hb⟩, ⟨hr, hr0⟩, ?_, fun r c h1 h2 => ?_⟩, fun r c h1 h2 => ?_⟩
  · obtain ⟨r, r1, r2⟩ := hc
    rw [hz] at r2
    have := bL_lt r2
    exact ⟨r + a, by omega, by rw [show 8 * (r + a) + b = 8 * r + b + 8 * a by omega]; exact r2⟩
  · by_cases q : r < a
    · exact hr0 _ (by omega)
    · have := hc0 (r - a) c (by omega) h2
      rw [hz, show 8 * (r - a) + c + 8 * a = 8 * r + c by omega] at this
      exact this
  · rw [hy r c h1 h2, hz, show 8 * r + (c + b) + 8 * a = 8 * (r + a) + (c + b) by omega]
section COR
variable {E : gk_E} {d : Nat} {h : gk_H} {x : Int64}
theorem s_gr_cornered {K : Int64 → gk_H → Prop} (hx : ¬ x = 0) (hk : ∀ y, cor x y → K y h) : gk_cl2 E (d + 2) jgr_cornered [.long x] h K := by
  have two : ∀ a, a < 8 → (∃ c, c < 8 ∧ nb_bitL x (8 * a + c) = true) → (∀ i, i < 8 * a → nb_bitL x i = false) → g_gr_cornered_36 E (d + 1) (gk_ql K) (upN x a) (nI 0) h := by
    intro a ha hr hr0
    refine lp_up (N := 8) (fun j (y : Int64) => g_gr_cornered_36 E (d + 1) (gk_ql K) y (nI j) h) (fun j y => (∀ r c, r < 8 → c < 8 → nb_bitL y (8 * r + c) = (decide (c + j < 8) && nb_bitL (upN x a) (8 * r + (c + j)))) ∧ ∀ r c, r < 8 → c < j → nb_bitL (upN x a) (8 * r + c) = false) ?_ ?_ 0 (upN x a) (by decide) ⟨fun r c h1 h2 => by rw [decide_eq_true (by omega), Bool.true_and, Nat.add_zero], fun r c _ z => by omega⟩
    · rintro j y hj ⟨i1, i2⟩ ih
      refine x_gr_cornered_36 (pk_le 8 j (fun q => by omega) (fun _ => ?_))
      rw [nb_cmp0, ← col8]
      refine ⟨fun q => ?_, fun q => s_gr_left (fe (fe ?_))⟩
      · obtain ⟨r, r1, r2⟩ := ex_of q
        have e := i1 r 0 r1 (by decide)
        rw [Nat.add_zero, Nat.zero_add, decide_eq_true hj, Bool.true_and] at e
        exact hk y (cor_of ha hr hr0 (fun c => bL_upN) hj ⟨r, r1, by rw [← e]; exact r2⟩ i2 i1)
      · rw [nI_1]
        refine ih _ ⟨fun r c h1 h2 => ?_, fun r c h1 h2 => ?_⟩
        · rw [bL_lf, show (8 * r + c) % 8 = c by omega]
          by_cases z : c = 7
          · subst z
            rw [decide_eq_false (p := 7 + (j + 1) < 8) (by omega)]; simp
          · rw [show 8 * r + c + 1 = 8 * r + (c + 1) by omega, i1 r (c + 1) h1 (by omega), show c + 1 + j = c + (j + 1) by omega]
            simp [z]
        · by_cases z : c = j
          · subst z
            have e := i1 r 0 h1 (by decide)
            rw [Nat.add_zero, Nat.zero_add, q r h1, decide_eq_true hj, Bool.true_and] at e
            exact e.symm
          · exact i2 r c h1 (by omega)
    · rintro y ⟨i1, i2⟩
      obtain ⟨c, c1, c2⟩ := hr
      have := i2 0 c (by decide) c1
      rw [bL_upN, show 8 * 0 + c + 8 * a = 8 * a + c by omega, c2] at this
      cases this
  refine gk_cl_mk (x_gr_cornered (fe (fe ?_)))
  refine lp_up (N := 8) (fun j (_ : Unit) => g_gr_cornered_5 E (d + 1) (gk_ql K) (upN x j) (nI j) h) (fun j _ => ∀ i, i < 8 * j → nb_bitL x i = false) ?_ ?_ 0 () (by decide) (fun i hi => by omega)
  · intro j _ hj hi ih
    refine x_gr_cornered_5 (pk_le 8 j (fun q => by omega) (fun _ => ?_))
    rw [nb_cmp0, ← low8]
    refine ⟨fun q => fe ?_, fun q => s_gr_up (fe (fe ?_))⟩
    · obtain ⟨c, c1, c2⟩ := ex_of q
      rw [bL_upN] at c2
      exact two j hj ⟨c, c1, by rw [Nat.add_comm]; exact c2⟩ hi
    · rw [nI_1]
      refine ih () fun i h9 => ?_
      by_cases z : i < 8 * j
      · exact hi i z
      · have := q (i - 8 * j) (by omega)
        rw [bL_upN, show i - 8 * j + 8 * j = i by omega] at this
        exact this
  · intro _ hi
    exact absurd (bL_eq0 fun c hc => hi c (by omega)) hx
theorem lr_up {y : Int64} {r : Nat} : lr (gUp y) r = lr y (r + 1) := by
  refine bI_ext fun c _ => ?_
  rw [lr_bit, lr_bit, bL_up, show 8 * r + c + 8 = 8 * (r + 1) + c by omega]
theorem lr_8 {y : Int64} : lr y 8 = 0 := by
  refine bI_ext fun c _ => ?_
  rw [lr_bit, bI_0, bL_ge (by omega)]; simp
theorem lr_sr {y z : Int64} {r b : Nat} (hb : b < 8) (hz : ∀ c, c < 8 → nb_bitL z (8 * r + c) = (decide (c + b < 8) && nb_bitL y (8 * r + (c + b)))) : lr y r >>> (nI b &&& 31) = lr z r := by
  have lt : y.toBitVec.toNat / 2 ^ (8 * r) % 256 < 256 := Nat.mod_lt _ (by decide)
  have e : lr y r >>> (nI b &&& 31) = nI (y.toBitVec.toNat / 2 ^ (8 * r) % 256 / 2 ^ b) := pk_shrN (Nat.lt_trans lt (by decide)) _ b (nb_sh b (by omega))
  rw [e]
  refine (lr_ext (Nat.lt_of_le_of_lt (Nat.div_le_self _ _) lt) fun c hc => ?_).symm
  rw [hz c hc, Nat.testBit_div_two_pow, lr_tb]
theorem s_mo_pushes {K : gk_H → Prop} (hg : OW h 135 x) (hx : ¬ x = 0) (hk : ∀ h' y, fr S_own h h' → cor x y → OW h' 135 y → K h') : gk_cv E (d + 2) jmo_pushes [.ref 112] h K := by
  have two : ∀ (s : gk_H) (a : Nat), fr S_own h s → a < 8 → OW s 135 (upN x a) → (∃ c, c < 8 ∧ nb_bitL x (8 * a + c) = true) → (∀ i, i < 8 * a → nb_bitL x i = false) → g_mo_pushes_52 E (d + 1) (gk_qv K) (nI 0) (nI 0) s := by
    intro s a hfr ha ho hr hr0
    refine lp_up (N := 8) (fun j (v : Int32) => g_mo_pushes_52 E (d + 1) (gk_qv K) v (nI j) s) (fun j v => ∀ c, c < 8 → (nb_bit v c = true ↔ ∃ r, r < j ∧ nb_bitL (upN x a) (8 * r + c) = true)) ?_ ?_ 0 (nI 0) (by decide) (fun c _ => ⟨fun q => ?_, fun ⟨r, q, _⟩ => by omega⟩)
    · intro j v hj hi ih
      refine x_mo_pushes_52 (pk_le 8 j (fun q => by omega) (fun _ => ⟨vp_in_nI hj (by decide), fe (fe ?_)⟩))
      rw [nI_1, nI_clamp (by omega), ho j hj]
      refine ih _ fun c hc => ?_
      rw [bI_or, lr_bit, decide_eq_true hc, Bool.true_and, Bool.or_eq_true, hi c hc]
      constructor
      · rintro (⟨r, r1, r2⟩ | q)
        · exact ⟨r, by omega, r2⟩
        · exact ⟨j, by omega, q⟩
      · rintro ⟨r, r1, r2⟩
        by_cases z : r = j
        · subst z; exact Or.inr r2
        · exact Or.inl ⟨r, by omega, r2⟩
    · intro v hi
      refine x_mo_pushes_52 (pk_le 8 8 (fun _ => fe ?_) (fun q => by omega))
      refine lp_up (N := 8) (fun j (_ : Unit) => g_mo_pushes_75 E (d + 1) (gk_qv K) v (nI j) s) (fun j _ => ∀ c, c < j → nb_bit v c = false) ?_ ?_ 0 () (by decide) (fun c q => by omega)
      · intro b _ hb hb0 ih
        refine x_mo_pushes_75 (s_mo_has (by omega) (bsel2 (fun q => fe ?_) (fun q => fe ?_)))
        · rw [nI_1]
          refine ih () fun c hc => ?_
          by_cases z : c = b
          · rw [z]; exact q
          · exact hb0 c (by omega)
        · have hc := (hi b hb).mp q
          have hc0 : ∀ r c, r < 8 → c < b → nb_bitL (upN x a) (8 * r + c) = false := by
            intro r c h1 h2
            cases e : nb_bitL (upN x a) (8 * r + c) with
            | false => rfl
            | true =>
              have := (hi c (by omega)).mpr ⟨r, h1, e⟩
              rw [hb0 c h2] at this; cases this
          have hy : ∀ r c, r < 8 → c < 8 → nb_bitL (gMk (fun t => decide (t % 8 + b < 8) && nb_bitL (upN x a) (t + b))) (8 * r + c) = (decide (c + b < 8) && nb_bitL (upN x a) (8 * r + (c + b))) := by
            intro r c h1 h2
            rw [bL_mk (by omega), show (8 * r + c) % 8 = c by omega, Nat.add_assoc]
          refine lp_up (N := 8) (fun j (s : gk_H) => g_mo_pushes_93 E (d + 1) (gk_qv K) (nI b) (nI j) s) (fun j s => fr S_own h s ∧ ∀ r, r < 8 → s.2.1 135 r = if r < j then lr (gMk (fun t => decide (t % 8 + b < 8) && nb_bitL (upN x a) (t + b))) r else lr (upN x a) r) ?_ ?_ 0 s (by decide) ⟨hfr, fun r hr => by rw [if_neg (by omega)]; exact ho r hr⟩
          · rintro j s hj ⟨i1, i2⟩ ih
            refine x_mo_pushes_93 (pk_le 8 j (fun q => by omega) (fun _ => ⟨vp_in_nI hj (by decide), vp_in_nI hj (by decide), fe (fe ?_)⟩))
            rw [nI_1, nI_clamp (by omega), i2 j hj, if_neg (by omega), lr_sr hb (fun c hc => hy j c hj hc)]
            refine ih _ ⟨fr_tr i1 (fr_ha (Or.inl rfl)), fun r hr => ?_⟩
            rw [OW_set]
            by_cases z : r = j
            · rw [if_pos z, if_pos (by omega), z]
            · rw [if_neg z, i2 r hr]
              by_cases y : r < j
              · rw [if_pos y, if_pos (by omega)]
              · rw [if_neg y, if_neg (by omega)]
          · rintro s ⟨i1, i2⟩
            refine x_mo_pushes_93 (pk_le 8 8 (fun _ => hk s _ i1 (cor_of ha hr hr0 (fun c => bL_upN) hb hc hc0 hy) (fun r hr => ?_)) (fun q => by omega))
            rw [i2 r hr, if_pos hr]
      · intro _ hb0
        obtain ⟨c, c1, c2⟩ := hr
        have := (hi c c1).mpr ⟨0, by decide, by rw [bL_upN, show 8 * 0 + c + 8 * a = 8 * a + c by omega]; exact c2⟩
        rw [hb0 c c1] at this; cases this
    · rw [show nI 0 = 0 from rfl, bI_0] at q; cases q
  have one : ∀ (m a : Nat) (s : gk_H), a + m = 8 → fr S_own h s → OW s 135 (upN x a) → (∀ i, i < 8 * a → nb_bitL x i = false) → w_mo_pushes_0 E (d + 1) (gk_qv K) s := by
    intro m
    induction m with
    | zero =>
      intro a s hm _ _ h0
      exact absurd (bL_eq0 fun c hc => h0 c (by omega)) hx
    | succ m ih =>
      intro a s hm hfr ho h0
      have e0 : s.2.1 135 (0 : Int32).toNatClampNeg = lr (upN x a) 0 := ho 0 (by decide)
      unfold w_mo_pushes_0
      rw [e0]
      have key : lr (upN x a) 0 = 0 ↔ ∀ c, c < 8 → nb_bitL x (8 * a + c) = false := by
        constructor
        · intro q c hc
          have e := lr_bit (g := upN x a) (r := 0) (c := c)
          rw [q, bI_0, decide_eq_true hc, Bool.true_and, bL_upN, show 8 * 0 + c + 8 * a = 8 * a + c by omega] at e
          exact e.symm
        · intro q
          refine bI_ext fun c _ => ?_
          rw [lr_bit, bI_0]
          by_cases z : c < 8
          · rw [bL_upN, show 8 * 0 + c + 8 * a = 8 * a + c by omega, q c z]; simp
          · simp [z]
      rw [key]
      refine ⟨vpi (by decide), fun q => fe (fe (two s a hfr (by omega) ho (ex_of q) h0)), fun q => fe ?_⟩
      refine lp_up (N := 7) (fun j (s : gk_H) => g_mo_pushes_11 E (d + 1) (gk_qv K) (nI j) s) (fun j s => fr S_own h s ∧ ∀ r, r < 8 → s.2.1 135 r = if r < j then lr (upN x (a + 1)) r else lr (upN x a) r) ?_ ?_ 0 s (by decide) ⟨hfr, fun r hr => by rw [if_neg (by omega)]; exact ho r hr⟩
      · rintro j s hj ⟨i1, i2⟩ ihj
        refine x_mo_pushes_11 (pk_le 7 j (fun q => by omega) (fun _ => ?_))
        rw [nI_1, nI_clamp (n := j + 1) (by omega), nI_clamp (n := j) (by omega)]
        refine ⟨vp_in_nI (by omega) (by decide), vp_in_nI (by omega) (by decide), fe (fe ?_)⟩
        refine ihj _ ⟨fr_tr i1 (fr_ha (Or.inl rfl)), fun r hr => ?_⟩
        rw [OW_set]
        by_cases z : r = j
        · rw [if_pos z, if_pos (by omega), i2 (j + 1) (by omega), if_neg (by omega), upN, lr_up, z]
        · rw [if_neg z, i2 r hr]
          by_cases y : r < j
          · rw [if_pos y, if_pos (by omega)]
          · rw [if_neg y, if_neg (by omega)]
      · rintro s ⟨i1, i2⟩
        refine x_mo_pushes_11 (pk_le 7 7 (fun _ => ⟨vpi (by decide), fe ?_⟩) (fun q => by omega))
        refine x_mo_pushes_0 (ih (a + 1) _ (by omega) (fr_tr i1 (fr_ha (Or.inl rfl))) (fun r hr => ?_) (fun i h9 => ?_))
        · show (gk_ha s 135 7 0).2.1 135 r = _
          rw [OW_set]
          by_cases z : r = 7
          · rw [if_pos z, z, upN, lr_up, lr_8]
          · rw [if_neg z, i2 r hr, if_pos (by omega)]
        · by_cases z : i < 8 * a
          · exact h0 i z
          · have := q (i - 8 * a) (by omega)
            rwa [show 8 * a + (i - 8 * a) = i by omega] at this
  refine gk_cv_mk (x_mo_pushes ?_)
  show w_mo_pushes_0 E (d + 1) (gk_qv K) h
  exact one 8 0 h rfl fr_rf hg (fun i hi => by omega)
theorem s_mo_isAim {K : Int32 → gk_H → Prop} {y : Int64} (hx : OW h 135 x) (hy : OW h 137 y) (h1 : x = y → K 1 h) (h0 : ¬ x = y → K 0 h) : gk_ci E (d + 1) jmo_isAim [.ref 112] h K := by
  refine gk_ci_mk (x_mo_isAim (fe ?_))
  refine lp_up (N := 8) (fun j (_ : Unit) => g_mo_isAim_2 E d (gk_qi K) (nI j) h) (fun j _ => ∀ r, r < j → lr x r = lr y r) ?_ ?_ 0 () (by decide) (fun r q => by omega)
  · intro j _ hj hi ih
    refine x_mo_isAim_2 (pk_le 8 j (fun q => by omega) (fun _ => ⟨vp_in_nI hj (by decide), vp_in_nI hj (by decide), ?_⟩))
    rw [nI_clamp (by omega), hx j hj, hy j hj]
    refine ⟨fun q => fe ?_, fun q => ⟨Or.inl rfl, h0 (fun z => q (by rw [z]))⟩⟩
    rw [nI_1]
    refine ih () fun r hr => ?_
    by_cases z : r = j
    · rw [z]; exact q
    · exact hi r (by omega)
  · intro _ hi
    exact x_mo_isAim_2 (pk_le 8 8 (fun _ => ⟨Or.inr rfl, h1 (lr_inj.mp hi)⟩) (fun q => by omega))
end COR
def gTb (g : Int64) (t : Nat) : Int64 := gMk (fun c => nb_bitL g (pr t c))
theorem gTb_ne {g : Int64} {t : Nat} (ht : t < 8) (hg : ¬ g = 0) : ¬ gTb g t = 0 := by
  intro q
  obtain ⟨c, c1, c2⟩ := bL_ne0 hg
  have e : nb_bitL (gTb g t) (tc c t) = nb_bitL g (pr t (tc c t)) := bL_mk (tc_pr t ht c c1).2.2.2
  rw [q, bL_0, (tc_pr t ht c c1).2.1, c2] at e
  cases e
/-- a is b, turned t times -/
def tuP (a b : Int64) (t : Nat) : Prop := ∃ y, cor (gTb a t) y ∧ cor b y
theorem tuP_iff {a b y z : Int64} {t : Nat} (hy : cor (gTb a t) y) (hz : cor b z) : tuP a b t ↔ y = z := by
  constructor
  · rintro ⟨w, w1, w2⟩
    rw [cor_u hy w1, cor_u hz w2]
  · rintro rfl
    exact ⟨y, hy, hz⟩
def S_tu (k : Nat) : Prop := k = 135 ∨ k = 136 ∨ k = 137
theorem lc_turned {E : gk_E} {d : Nat} (a0 a1 : Int32) : lc_ok E (d + 4) InvX jdp_turned jmo_turned [.int a0, .int a1] := by
  refine lc_q fun n w T X hn hw0 hg hT => ?_
  by_cases ha : ∃ q, q < n ∧ a0 = nI q
  · obtain ⟨p, hp, rfl⟩ := ha
    by_cases hb : ∃ q, q < n ∧ a1 = nI q
    · obtain ⟨q, hq, rfl⟩ := hb
      by_cases za : w.2.1 p = 0
      · refine ⟨-1, fun h K v k => ?_, fun h K v k => ?_⟩
        · refine gk_ci_mk (x_dp_turned (s_wh1 hn (Vw_n v) hp (yF (by decide) (s_wh1 hn (Vw_n v) hq (yF (by decide) ⟨vp_in_nI (by omega) (by decide), ?_⟩)))))
          rw [nI_clamp (n := p) (by omega), Vw_d v (by omega), nb_cmp0]
          exact yT za (k h Qs_rf)
        · have v2 := Vw_Qs (Qs_t (x := 0)) v
          refine gk_ci_mk (x_mo_turned (fe (s_mp1 hn v2.1.2.2 hp (yF (by decide) (s_mp1 hn v2.1.2.2 hq (yF (by decide) (s_mo_dryOf (by omega) (Vw_mp v2 (by omega)).2.2.2.2 (yT ?_ (k _ Qs_t)))))))))
          rw [za]; decide
      · by_cases zb : w.2.1 q = 0
        · refine ⟨-1, fun h K v k => ?_, fun h K v k => ?_⟩
          · refine gk_ci_mk (x_dp_turned (s_wh1 hn (Vw_n v) hp (yF (by decide) (s_wh1 hn (Vw_n v) hq (yF (by decide) ⟨vp_in_nI (by omega) (by decide), ?_⟩)))))
            rw [nI_clamp (n := p) (by omega), nI_clamp (n := q) (by omega), Vw_d v (p := p) (by omega), Vw_d v (p := q) (by omega), nb_cmp0, nb_cmp0]
            exact yF za ⟨vp_in_nI (by omega) (by decide), zT zb (k h Qs_rf)⟩
          · have v2 := Vw_Qs (Qs_t (x := 0)) v
            have ne : ¬ nI (nb_onesL (w.2.1 p)) = 0 := by
              obtain ⟨c, c1, c2⟩ := bL_ne0 za
              have := cnt_pos c1 c2
              have := nb_onesL_le (w.2.1 p)
              exact nI_ne0 (by unfold nb_onesL; omega) (by omega)
            refine gk_ci_mk (x_mo_turned (fe (s_mp1 hn v2.1.2.2 hp (yF (by decide) (s_mp1 hn v2.1.2.2 hq (yF (by decide) (s_mo_dryOf (by omega) (Vw_mp v2 (by omega)).2.2.2.2 (yF ne (s_mo_dryOf (by omega) (Vw_mp v2 (by omega)).2.2.2.2 (zT ?_ (k _ Qs_t)))))))))))
            rw [zb]; decide
        · have ne : ∀ x : Int64, ¬ x = 0 → ¬ nI (nb_onesL x) = 0 := by
            intro x hx
            obtain ⟨c, c1, c2⟩ := bL_ne0 hx
            have := cnt_pos c1 c2
            have := nb_onesL_le x
            exact nI_ne0 (by unfold nb_onesL; omega) (by omega)
          have hex : ∃ r : Int32, (∀ t, t < 8 → tuP (w.2.1 p) (w.2.1 q) t → (∀ i, i < t → ¬ tuP (w.2.1 p) (w.2.1 q) i) → r = nI t) ∧ ((∀ i, i < 8 → ¬ tuP (w.2.1 p) (w.2.1 q) i) → r = -1) := by
            by_cases z : ∃ t, t < 8 ∧ tuP (w.2.1 p) (w.2.1 q) t
            · obtain ⟨t, ⟨t1, t2⟩, t3⟩ := pk_least (fun t => t < 8 ∧ tuP (w.2.1 p) (w.2.1 q) t) z
              refine ⟨nI t, fun t' h1 h2 h3 => ?_, fun h1 => absurd t2 (h1 t t1)⟩
              rcases Nat.lt_trichotomy t t' with y | y | y
              · exact absurd t2 (h3 t y)
              · rw [y]
              · exact absurd ⟨h1, h2⟩ (t3 t' y)
            · exact ⟨-1, fun t h1 h2 _ => absurd ⟨t, h1, h2⟩ z, fun _ => rfl⟩
          obtain ⟨r, r1, r2⟩ := hex
          refine ⟨r, fun h K v k => ?_, fun h K v k => ?_⟩
          · have k := k h Qs_rf
            refine gk_ci_mk (x_dp_turned (s_wh1 hn (Vw_n v) hp (yF (by decide) (s_wh1 hn (Vw_n v) hq (yF (by decide) ⟨vp_in_nI (by omega) (by decide), ?_⟩)))))
            rw [nI_clamp (n := p) (by omega), nI_clamp (n := q) (by omega), Vw_d v (p := p) (by omega), Vw_d v (p := q) (by omega), nb_cmp0, nb_cmp0]
            refine yF za ⟨vp_in_nI (by omega) (by decide), zF zb ⟨vp_in_nI (by omega) (by decide), s_gr_cornered zb fun z hz => fe (fe ?_)⟩⟩
            refine lp_up (N := 8) (fun j (_ : Unit) => g_dp_turned_68 E (d + 3) (gk_qi K) (nI p) z (nI j) h) (fun j _ => ∀ i, i < j → ¬ tuP (w.2.1 p) (w.2.1 q) i) ?_ ?_ 0 () (by decide) (fun i h9 => by omega)
            · intro j _ hj hi ih
              refine x_dp_turned_68 (pk_le 8 j (fun q => by omega) (fun _ => ⟨vp_in_nI (by omega) (by decide), ?_⟩))
              rw [nI_clamp (by omega), Vw_d v (by omega)]
              refine s_gr_turnedBy hj (s_gr_cornered (gTb_ne hj za) fun y hy => ?_)
              rw [lg_eq0, ← tuP_iff hy hz]
              refine ⟨fun c => fe ?_, fun c => ?_⟩
              · rw [nI_1]
                refine ih () fun i h9 => ?_
                by_cases z9 : i = j
                · rw [z9]; exact c
                · exact hi i (by omega)
              · show K (nI j) h
                rw [← r1 j hj c hi]; exact k
            · intro _ hi
              refine x_dp_turned_68 (pk_le 8 8 (fun _ => ?_) (fun q => by omega))
              show K (-1) h
              rw [← r2 hi]; exact k
          · have v2 := Vw_Qs (Qs_t (x := 0)) v
            have Qt : ∀ h', fr S_tu (gk_hf h 112 0 0) h' → Qs h h' := fun h' a => Qs_tr Qs_t (Qs_134 (fun k q => by unfold S_tu at q; omega) a)
            have gp := (Vw_mp v2 (p := p) (by omega)).2.2.2.2
            have gq := (Vw_mp v2 (p := q) (by omega)).2.2.2.2
            refine gk_ci_mk (x_mo_turned (fe (s_mp1 hn v2.1.2.2 hp (yF (by decide) (s_mp1 hn v2.1.2.2 hq (yF (by decide) (s_mo_dryOf (by omega) gp (yF (ne _ za) (s_mo_dryOf (by omega) gq (zF (ne _ zb) (s_mo_takesOwn (by omega) gq fun h1 b1 b2 => s_mo_pushes b2 zb fun h2 z c1 hz c3 => fe ?_))))))))))) 
            have f2 : fr S_tu (gk_hf h 112 0 0) h2 := fr_tr (fr_mo b1 (fun k q => Or.inl q)) (fr_mo c1 (fun k q => by unfold S_own at q; unfold S_tu; omega))
            refine lp_up (N := 8) (fun j (s : gk_H) => g_mo_turned_50 E (d + 3) (gk_qi K) (nI p) (nI j) s) (fun j s => fr S_tu (gk_hf h 112 0 0) s ∧ OW s 135 z ∧ ∀ r, r < j → s.2.1 137 r = lr z r) ?_ ?_ 0 h2 (by decide) ⟨f2, c3, fun r h9 => by omega⟩
            · rintro j s hj ⟨i1, i2, i3⟩ ih
              refine x_mo_turned_50 (pk_le 8 j (fun q => by omega) (fun _ => ⟨vp_in_nI hj (by decide), vp_in_nI hj (by decide), fe (fe ?_)⟩))
              rw [nI_1, nI_clamp (by omega), i2 j hj]
              refine ih _ ⟨fr_tr i1 (fr_ha (Or.inr (Or.inr rfl))), fun r hr => ?_, fun r hr => ?_⟩
              · rw [ha_a, if_neg (fun w => absurd w.1 (by decide))]; exact i2 r hr
              · rw [OW_set]
                by_cases z9 : r = j
                · rw [if_pos z9, z9]
                · rw [if_neg z9]; exact i3 r (by omega)
            · clear c3 f2 c1 b1 b2
              rintro s ⟨i1, i2, i3⟩
              refine x_mo_turned_50 (pk_le 8 8 (fun _ => fe ?_) (fun q => by omega))
              refine lp_up (N := 8) (fun j (s : gk_H) => g_mo_turned_76 E (d + 3) (gk_qi K) (nI p) (nI j) s) (fun j s => fr S_tu (gk_hf h 112 0 0) s ∧ OW s 137 z ∧ ∀ i, i < j → ¬ tuP (w.2.1 p) (w.2.1 q) i) ?_ ?_ 0 s (by decide) ⟨i1, i3, fun i h9 => by omega⟩
              · clear i1 i2 i3 s
                rintro t s ht ⟨i1, i2, i3⟩ ih
                have em : nI t - nI t / 4 * 4 = nI (t % 4) := pk_rem (d := 4) (by omega) (by omega) (by omega)
                have rest : ∀ (s1 : gk_H), fr S_tu (gk_hf h 112 0 0) s1 → OW s1 137 z → OW s1 135 (if t < 4 then w.2.1 p else gMir (w.2.1 p)) → g_mo_turned_99 E (d + 3) (gk_qi K) (nI p) (nI t) (nI 0) s1 := by
                  intro s1 e1 e2 e3
                  refine lp_up (N := t % 4) (fun j (s : gk_H) => g_mo_turned_99 E (d + 3) (gk_qi K) (nI p) (nI t) (nI j) s) (fun j s => fr S_tu (gk_hf h 112 0 0) s ∧ OW s 137 z ∧ OW s 135 (gRoN (if t < 4 then w.2.1 p else gMir (w.2.1 p)) j)) ?_ ?_ 0 s1 (Nat.zero_le _) ⟨e1, e2, e3⟩
                  · clear e1 e2 e3 s1
                    rintro j s1 hj ⟨e1, e2, e3⟩ ihj
                    refine x_mo_turned_99 ⟨by decide, ?_⟩
                    rw [em]
                    refine pk_le (t % 4) j (fun q => by omega) (fun _ => s_mo_turnsRight e3 fun h3 u1 u2 => fe ?_)
                    rw [nI_1]
                    exact ihj h3 ⟨fr_tr e1 (fr_mo u1 (fun k q => by unfold S_own at q; unfold S_tu; omega)), fun r hr => by rw [(u1 137 (by unfold S_own; omega)).2.1]; exact e2 r hr, u2⟩
                  · clear e1 e2 e3 s1
                    rintro s1 ⟨e1, e2, e3⟩
                    refine x_mo_turned_99 ⟨by decide, ?_⟩
                    rw [em]
                    rw [← gT_eq] at e3
                    refine pk_le (t % 4) (t % 4) (fun _ => s_mo_pushes e3 (gTb_ne ht za) fun h3 y u1 hy u2 => ?_) (fun q => by omega)
                    have e1' := fr_tr e1 (fr_mo u1 (fun k q => by unfold S_own at q; unfold S_tu; omega))
                    have e2' : OW h3 137 z := fun r hr => by rw [(u1 137 (by unfold S_own; omega)).2.1]; exact e2 r hr
                    refine s_mo_isAim u2 e2' (fun c => yF (by decide) ?_) (fun c => yT rfl (fe ?_))
                    · show K (nI t) h3
                      rw [← r1 t ht ((tuP_iff hy hz).mpr c) i3]
                      exact k h3 (Qt h3 e1')
                    · rw [nI_1]
                      refine ih h3 ⟨e1', e2', fun i h9 => ?_⟩
                      by_cases z9 : i = t
                      · rw [z9]; exact fun z8 => c ((tuP_iff hy hz).mp z8)
                      · exact i3 i (by omega)
                refine x_mo_turned_76 (pk_le 8 t (fun q => by omega) (fun _ => s_mo_takesOwn (by omega) (MG_fr i1 (by unfold S_tu; omega) gp) fun h3 u1 u2 => ?_))
                have e1 := fr_tr i1 (fr_mo (T := S_tu) u1 (fun k q => Or.inl q))
                have e2 : OW h3 137 z := fun r hr => by rw [(u1 137 (by omega)).2.1]; exact i2 r hr
                refine pk_le t 3 (fun q => fe (rest h3 e1 e2 (by rw [if_pos (by omega)]; exact u2))) (fun q => s_mo_mirrors u2 fun h4 x1 x2 => fe (rest h4 (fr_tr e1 (fr_mo x1 (fun k q => by unfold S_own at q; unfold S_tu; omega))) (fun r hr => by rw [(x1 137 (by unfold S_own; omega)).2.1]; exact e2 r hr) (by rw [if_neg (by omega)]; exact x2)))
              · rintro s ⟨i1, i2, i3⟩
                refine x_mo_turned_76 (pk_le 8 8 (fun _ => ?_) (fun q => by omega))
                show K (-1) s
                rw [← r2 i3]
                exact k s (Qt s i1)
    · refine ⟨-1, fun h K v k => ?_, fun h K v k => ?_⟩
      · exact gk_ci_mk (x_dp_turned (s_wh1 hn (Vw_n v) hp (yF (by decide) (s_wh0 hn (Vw_n v) hb (yT rfl (k h Qs_rf))))))
      · have v2 := Vw_Qs (Qs_t (x := 0)) v
        exact gk_ci_mk (x_mo_turned (fe (s_mp1 hn v2.1.2.2 hp (yF (by decide) (s_mp0 hn v2.1.2.2 hb (yT rfl (k _ Qs_t)))))))
  · refine ⟨-1, fun h K v k => ?_, fun h K v k => ?_⟩
    · exact gk_ci_mk (x_dp_turned (s_wh0 hn (Vw_n v) ha (yT rfl (k h Qs_rf))))
    · exact gk_ci_mk (x_mo_turned (fe (s_mp0 hn (Vw_Qs (Qs_t (x := 0)) v).1.2.2 ha (yT rfl (k _ Qs_t)))))
