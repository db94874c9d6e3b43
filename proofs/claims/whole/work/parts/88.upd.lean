/-! worlds told anew, on both sides -/
def GW (n : Nat) (w : gk_WV) : Prop := (n ≤ 10 ∧ w.1 0 = nI n) ∧ (∀ p, n ≤ p → nb_bit (w.1 1) p = false ∧ nb_bit (w.1 2) p = false) ∧ (∀ p, n ≤ p → p < 10 → w.2.1 p = 0 ∧ w.2.2.2.1 p = -1 ∧ w.2.2.2.2.1 p = 0) ∧ (∀ p, p < 10 → w.2.2.2.1 p = -1 ∨ ∃ r, r < 6 ∧ w.2.2.2.1 p = nI r) ∧ ∃ k, k ≤ 150 ∧ w.1 7 = nI k
theorem GW_of {n : Nat} {w : gk_WV} (hn : n ≤ 10) (e : w.1 0 = nI n) (g : goodW w) : GW n w := by
  obtain ⟨m, ⟨m1, m2⟩, m3⟩ := g
  have : m = n := (nI_eq (by omega) (by omega)).mp (m2.symm.trans e)
  rw [this] at m1 m2 m3
  exact ⟨⟨m1, m2⟩, m3⟩
theorem GW_to {n : Nat} {w : gk_WV} (g : GW n w) : goodW w := ⟨n, g⟩
def wF (w : gk_WV) (i : Nat) (x : Int32) : gk_WV := (fun s => if s = i then x else w.1 s, w.2)
def wD (w : gk_WV) (p : Nat) (g : Int64) : gk_WV := (w.1, fun q => if q = p then g else w.2.1 q, w.2.2)
def wY (w : gk_WV) (p : Nat) (x : Int32) : gk_WV := (w.1, w.2.1, fun q => if q = p then x else w.2.2.1 q, w.2.2.2)
def wH (w : gk_WV) (p : Nat) (x : Int32) : gk_WV := (w.1, w.2.1, w.2.2.1, fun q => if q = p then x else w.2.2.2.1 q, w.2.2.2.2)
def wP (w : gk_WV) (p : Nat) (x : Int32) : gk_WV := (w.1, w.2.1, w.2.2.1, w.2.2.2.1, fun q => if q = p then x else w.2.2.2.2.1 q, w.2.2.2.2.2)
def wL (w : gk_WV) (r : Nat) (x : Int32) : gk_WV := (w.1, w.2.1, w.2.2.1, w.2.2.2.1, w.2.2.2.2.1, fun q => if q = r then x else w.2.2.2.2.2 q)
theorem hl_1 {h : gk_H} {k i : Nat} {x : Int64} : (gk_hl h k i x).1 = h.1 := rfl
theorem hl_a {h : gk_H} {k i : Nat} {x : Int64} : (gk_hl h k i x).2.1 = h.2.1 := rfl
theorem hl_l {h : gk_H} {k i k' s : Nat} {x : Int64} : (gk_hl h k i x).2.2 k' s = if k' = k ∧ s = i then x else h.2.2 k' s := by
  unfold gk_hl
  simp only [va_up]
  by_cases q : k' = k
  · subst q
    simp only [if_pos, true_and]
    unfold vp_updL
    rfl
  · simp [q]
theorem fr_hl {S : Nat → Prop} {h : gk_H} {k i : Nat} {x : Int64} (hk : S k) : fr S h (gk_hl h k i x) := by
  intro k' hk'
  refine ⟨rfl, rfl, ?_⟩
  funext s
  rw [hl_l]
  exact if_neg (fun q => hk' (by rw [q.1]; exact hk))
section UPD
variable {h : gk_H} {a p : Nat} {x : Int32} {w : gk_WV}
theorem wv_F {i : Nat} (hi : i < 8) (e : wv h a = w) : wv (gk_hf h a i x) a = wF w i x := by rw [wv_set hi, e]; rfl
theorem up_if {α : Type} {c : Nat → Prop} [DecidablePred c] {f : Nat → α} {z x : α} {p : Nat} (hp : c p) : (fun q => if c q then (if q = p then x else f q) else z) = fun q => if q = p then x else if c q then f q else z := by
  funext q
  by_cases e : q = p
  · rw [if_pos e, if_pos e, e, if_pos hp]
  · rw [if_neg e, if_neg e]
theorem wv_D {g : Int64} (hp : p < 10) (e : wv h a = w) : wv (gk_hl h (a + 1) p g) a = wD w p g := by
  rw [← e]
  refine Prod.ext rfl (Prod.ext ?_ rfl)
  have := up_if (c := fun q => q < 10) (f := fun q => h.2.2 (a + 1) q) (z := 0) (x := g) hp
  refine Eq.trans ?_ this
  funext q
  show (if q < 10 then (gk_hl h (a + 1) p g).2.2 (a + 1) q else 0) = _
  rw [hl_l]; simp
theorem wv_A {b q : Nat} (hb : b = a + 2 ∨ b = a + 3 ∨ b = a + 4 ∨ b = a + 5) : (gk_ha h b p x).2.1 (a + q) = if a + q = b then (fun s => if s = p then x else h.2.1 b s) else h.2.1 (a + q) := by
  funext s
  rw [ha_a]
  by_cases e : a + q = b
  · rw [if_pos e]
    by_cases e2 : s = p
    · rw [if_pos ⟨e, e2⟩, if_pos e2]
    · rw [if_neg (fun z => e2 z.2), if_neg e2, e]
  · rw [if_neg e, if_neg (fun z => e z.1)]
theorem wv_Y (hp : p < 10) (e : wv h a = w) : wv (gk_ha h (a + 2) p x) a = wY w p x := by
  rw [← e]
  unfold wv wY
  rw [wv_A (q := 2) (Or.inl rfl), wv_A (q := 3) (Or.inl rfl), wv_A (q := 4) (Or.inl rfl), wv_A (q := 5) (Or.inl rfl), if_pos rfl, if_neg (by omega), if_neg (by omega), if_neg (by omega), up_if (c := fun q => q < 10) hp]
  rfl
theorem wv_H (hp : p < 10) (e : wv h a = w) : wv (gk_ha h (a + 3) p x) a = wH w p x := by
  rw [← e]
  unfold wv wH
  rw [wv_A (q := 2) (Or.inr (Or.inl rfl)), wv_A (q := 3) (Or.inr (Or.inl rfl)), wv_A (q := 4) (Or.inr (Or.inl rfl)), wv_A (q := 5) (Or.inr (Or.inl rfl)), if_pos rfl, if_neg (by omega), if_neg (by omega), if_neg (by omega), up_if (c := fun q => q < 10) hp]
  rfl
theorem wv_P (hp : p < 10) (e : wv h a = w) : wv (gk_ha h (a + 4) p x) a = wP w p x := by
  rw [← e]
  unfold wv wP
  rw [wv_A (q := 2) (Or.inr (Or.inr (Or.inl rfl))), wv_A (q := 3) (Or.inr (Or.inr (Or.inl rfl))), wv_A (q := 4) (Or.inr (Or.inr (Or.inl rfl))), wv_A (q := 5) (Or.inr (Or.inr (Or.inl rfl))), if_pos rfl, if_neg (by omega), if_neg (by omega), if_neg (by omega), up_if (c := fun q => q < 10) hp]
  rfl
theorem wv_L (hp : p < 6) (e : wv h a = w) : wv (gk_ha h (a + 5) p x) a = wL w p x := by
  rw [← e]
  unfold wv wL
  rw [wv_A (q := 2) (Or.inr (Or.inr (Or.inr rfl))), wv_A (q := 3) (Or.inr (Or.inr (Or.inr rfl))), wv_A (q := 4) (Or.inr (Or.inr (Or.inr rfl))), wv_A (q := 5) (Or.inr (Or.inr (Or.inr rfl))), if_pos rfl, if_neg (by omega), if_neg (by omega), if_neg (by omega), up_if (c := fun q => q < 6) hp]
  rfl
/-! what is good stays good -/
theorem GW_F {n i : Nat} (hi : 3 ≤ i ∧ i ≤ 6) (g : GW n w) : GW n (wF w i x) := by
  obtain ⟨⟨g1, g2⟩, g3, g4, g5, g6⟩ := g
  have e : ∀ s, ¬ s = i → (wF w i x).1 s = w.1 s := fun s hs => if_neg hs
  refine ⟨⟨g1, by rw [e 0 (by omega)]; exact g2⟩, by rw [e 1 (by omega), e 2 (by omega)]; exact g3, g4, g5, by rw [e 7 (by omega)]; exact g6⟩
theorem GW_7 {n k : Nat} (hk : k ≤ 150) (g : GW n w) : GW n (wF w 7 (nI k)) := by
  obtain ⟨⟨g1, g2⟩, g3, g4, g5, g6⟩ := g
  exact ⟨⟨g1, g2⟩, g3, g4, g5, k, hk, rfl⟩
theorem GW_1 {n : Nat} (hx : ∀ p, n ≤ p → nb_bit x p = false) (g : GW n w) : GW n (wF w 1 x) := by
  obtain ⟨⟨g1, g2⟩, g3, g4, g5, g6⟩ := g
  exact ⟨⟨g1, g2⟩, fun p hp => ⟨hx p hp, (g3 p hp).2⟩, g4, g5, g6⟩
theorem GW_2 {n : Nat} (hx : ∀ p, n ≤ p → nb_bit x p = false) (g : GW n w) : GW n (wF w 2 x) := by
  obtain ⟨⟨g1, g2⟩, g3, g4, g5, g6⟩ := g
  exact ⟨⟨g1, g2⟩, fun p hp => ⟨(g3 p hp).1, hx p hp⟩, g4, g5, g6⟩
theorem GW_H {n : Nat} (hp : p < n) (hx : x = -1 ∨ ∃ r, r < 6 ∧ x = nI r) (g : GW n w) : GW n (wH w p x) := by
  obtain ⟨⟨g1, g2⟩, g3, g4, g5, g6⟩ := g
  refine ⟨⟨g1, g2⟩, g3, fun q h1 h2 => ?_, fun q hq => ?_, g6⟩
  · have : (wH w p x).2.2.2.1 q = w.2.2.2.1 q := if_neg (by omega)
    rw [this]; exact g4 q h1 h2
  · by_cases e : q = p
    · have : (wH w p x).2.2.2.1 q = x := if_pos e
      rw [this]; exact hx
    · have : (wH w p x).2.2.2.1 q = w.2.2.2.1 q := if_neg e
      rw [this]; exact g5 q hq
theorem GW_P {n : Nat} (hp : p < n) (g : GW n w) : GW n (wP w p x) := by
  obtain ⟨⟨g1, g2⟩, g3, g4, g5, g6⟩ := g
  refine ⟨⟨g1, g2⟩, g3, fun q h1 h2 => ?_, g5, g6⟩
  have : (wP w p x).2.2.2.2.1 q = w.2.2.2.2.1 q := if_neg (by omega)
  rw [this]; exact g4 q h1 h2
theorem GW_D {n : Nat} {y : Int64} (hp : p < n) (g : GW n w) : GW n (wD w p y) := by
  obtain ⟨⟨g1, g2⟩, g3, g4, g5, g6⟩ := g
  refine ⟨⟨g1, g2⟩, g3, fun q h1 h2 => ?_, g5, g6⟩
  have : (wD w p y).2.1 q = w.2.1 q := if_neg (by omega)
  rw [this]; exact g4 q h1 h2
theorem GW_L {n r : Nat} (g : GW n w) : GW n (wL w r x) := g
/-! the row -/
def rU (row : Nat → Int32) (j : Nat) (x : Int32) : Nat → Int32 := fun k => if k = j then x else row k
theorem rU_n {row : Nat → Int32} {j k : Nat} (e : ¬ k = j) : rU row j x k = row k := if_neg e
theorem rU_e {row : Nat → Int32} {j k : Nat} (e : k = j) : rU row j x k = x := if_pos e
theorem rv_U {j : Nat} (hj : j < 131) : rv (gk_ha h 113 j x) 113 0 = rU (rv h 113 0) j x := by
  have := rv_set (h := h) (k := 113) (o := 0) (i := j) (x := x) hj
  rw [Nat.zero_add] at this
  exact this
variable {c : Int32 × (Nat → Int32)} {row : Nat → Int32}
theorem wR_H (hp : p < 10) (r : wRel goodW c w row) (g : goodW (wH w p x)) : wRel goodW c (wH w p x) (rU row (11 + p) (x + 1)) := by
  obtain ⟨r0, -, r1, r2, r3, r4, r5, r6, r7⟩ := r
  refine ⟨r0, g, (rU_n (by omega)).trans r1, (rU_n (by omega)).trans r2, (rU_n (by omega)).trans r3, (rU_n (by omega)).trans r4, (rU_n (by omega)).trans r5, fun k hk => (rU_n (by omega)).trans (r6 k hk), fun q hq => ?_⟩
  obtain ⟨a1, a2, a3, a4, a5⟩ := r7 q hq
  refine ⟨?_, (rU_n (by omega)).trans a2, (rU_n (by omega)).trans a3, (rU_n (by omega)).trans a4, fun k hk => (rU_n (by omega)).trans (a5 k hk)⟩
  by_cases e : q = p
  · rw [rU_e (by omega)]; show x + 1 = (if q = p then x else _) + 1; rw [if_pos e]
  · rw [rU_n (by omega), a1]; show _ = (if q = p then x else _) + 1; rw [if_neg e]
theorem wR_P (hp : p < 10) (r : wRel goodW c w row) (g : goodW (wP w p x)) : wRel goodW c (wP w p x) (rU row (41 + p) x) := by
  obtain ⟨r0, -, r1, r2, r3, r4, r5, r6, r7⟩ := r
  refine ⟨r0, g, (rU_n (by omega)).trans r1, (rU_n (by omega)).trans r2, (rU_n (by omega)).trans r3, (rU_n (by omega)).trans r4, (rU_n (by omega)).trans r5, fun k hk => (rU_n (by omega)).trans (r6 k hk), fun q hq => ?_⟩
  obtain ⟨a1, a2, a3, a4, a5⟩ := r7 q hq
  refine ⟨(rU_n (by omega)).trans a1, (rU_n (by omega)).trans a2, (rU_n (by omega)).trans a3, ?_, fun k hk => (rU_n (by omega)).trans (a5 k hk)⟩
  by_cases e : q = p
  · rw [rU_e (by omega)]; show x = (if q = p then x else _); rw [if_pos e]
  · rw [rU_n (by omega), a4]; show _ = (if q = p then x else _); rw [if_neg e]
theorem wR_L {l : Nat} (hl : l < 6) (r : wRel goodW c w row) (g : goodW (wL w l x)) : wRel goodW c (wL w l x) (rU row (5 + l) x) := by
  obtain ⟨r0, -, r1, r2, r3, r4, r5, r6, r7⟩ := r
  refine ⟨r0, g, (rU_n (by omega)).trans r1, (rU_n (by omega)).trans r2, (rU_n (by omega)).trans r3, (rU_n (by omega)).trans r4, (rU_n (by omega)).trans r5, fun k hk => ?_, fun q hq => ?_⟩
  · by_cases e : k = l
    · rw [rU_e (by omega)]; show x = (if k = l then x else _); rw [if_pos e]
    · rw [rU_n (by omega), r6 k hk]; show _ = (if k = l then x else _); rw [if_neg e]
  · obtain ⟨a1, a2, a3, a4, a5⟩ := r7 q hq
    exact ⟨(rU_n (by omega)).trans a1, (rU_n (by omega)).trans a2, (rU_n (by omega)).trans a3, (rU_n (by omega)).trans a4, fun k hk => (rU_n (by omega)).trans (a5 k hk)⟩
theorem wR_1 {b : Bool} (hp : p < 10) (hx : ∀ q, q < 10 → nb_bit x q = if q = p then b else nb_bit (w.1 1) q) (r : wRel goodW c w row) (g : goodW (wF w 1 x)) : wRel goodW c (wF w 1 x) (rU row (21 + p) (nb_b b)) := by
  obtain ⟨r0, -, r1, r2, r3, r4, r5, r6, r7⟩ := r
  refine ⟨r0, g, (rU_n (by omega)).trans r1, (rU_n (by omega)).trans r2, (rU_n (by omega)).trans r3, (rU_n (by omega)).trans r4, (rU_n (by omega)).trans r5, fun k hk => (rU_n (by omega)).trans (r6 k hk), fun q hq => ?_⟩
  obtain ⟨a1, a2, a3, a4, a5⟩ := r7 q hq
  refine ⟨(rU_n (by omega)).trans a1, ?_, (rU_n (by omega)).trans a3, (rU_n (by omega)).trans a4, fun k hk => (rU_n (by omega)).trans (a5 k hk)⟩
  show _ = nb_b (nb_bit x q)
  rw [hx q hq]
  by_cases e : q = p
  · rw [rU_e (by omega), if_pos e]
  · rw [rU_n (by omega), if_neg e, a2]
theorem wR_2 {b : Bool} (hp : p < 10) (hx : ∀ q, q < 10 → nb_bit x q = if q = p then b else nb_bit (w.1 2) q) (r : wRel goodW c w row) (g : goodW (wF w 2 x)) : wRel goodW c (wF w 2 x) (rU row (31 + p) (nb_b b)) := by
  obtain ⟨r0, -, r1, r2, r3, r4, r5, r6, r7⟩ := r
  refine ⟨r0, g, (rU_n (by omega)).trans r1, (rU_n (by omega)).trans r2, (rU_n (by omega)).trans r3, (rU_n (by omega)).trans r4, (rU_n (by omega)).trans r5, fun k hk => (rU_n (by omega)).trans (r6 k hk), fun q hq => ?_⟩
  obtain ⟨a1, a2, a3, a4, a5⟩ := r7 q hq
  refine ⟨(rU_n (by omega)).trans a1, (rU_n (by omega)).trans a2, ?_, (rU_n (by omega)).trans a4, fun k hk => (rU_n (by omega)).trans (a5 k hk)⟩
  show _ = nb_b (nb_bit x q)
  rw [hx q hq]
  by_cases e : q = p
  · rw [rU_e (by omega), if_pos e]
  · rw [rU_n (by omega), if_neg e, a3]
theorem wR_D {y : Int64} {k : Nat} (hp : p < 10) (hk : k < 8) (hy : ∀ k', k' < 8 → lr y k' = if k' = k then x else lr (w.2.1 p) k') (r : wRel goodW c w row) (g : goodW (wD w p y)) : wRel goodW c (wD w p y) (rU row (51 + 8 * p + k) x) := by
  obtain ⟨r0, -, r1, r2, r3, r4, r5, r6, r7⟩ := r
  refine ⟨r0, g, (rU_n (by omega)).trans r1, (rU_n (by omega)).trans r2, (rU_n (by omega)).trans r3, (rU_n (by omega)).trans r4, (rU_n (by omega)).trans r5, fun k hk => (rU_n (by omega)).trans (r6 k hk), fun q hq => ?_⟩
  obtain ⟨a1, a2, a3, a4, a5⟩ := r7 q hq
  refine ⟨(rU_n (by omega)).trans a1, (rU_n (by omega)).trans a2, (rU_n (by omega)).trans a3, (rU_n (by omega)).trans a4, fun k' hk' => ?_⟩
  show _ = lr (if q = p then y else w.2.1 q) k'
  by_cases e : q = p
  · rw [if_pos e, hy k' hk']
    by_cases e2 : k' = k
    · rw [rU_e (by omega), if_pos e2]
    · rw [rU_n (by omega), if_neg e2, a5 k' hk', e]
  · rw [rU_n (by omega), if_neg e]; exact a5 k' hk'
/-! the reference's world -/
theorem MU {w' : gk_WV} {j : Nat} (hj : j < 131) (m : MWr h w) (e0 : w'.1 0 = w.1 0) (ey : w'.2.2.1 = w.2.2.1) (r : wRel goodW (w.1 0, w.2.2.1) w' (rU (rv h 113 0) j x)) : MWr (gk_ha h 113 j x) w' := by
  refine ⟨by rw [e0, ey, rv_U hj]; exact r, fun p hp => ?_⟩
  rw [ey, ha_a, if_neg (by omega)]; exact m.2 p hp
theorem MU_F {i j : Nat} (hij : (i = 5 ∧ j = 0) ∨ (i = 6 ∧ j = 1) ∨ (i = 7 ∧ j = 2) ∨ (i = 3 ∧ j = 3) ∨ (i = 4 ∧ j = 4)) (m : MWr h w) (g : goodW (wF w i x)) : MWr (gk_ha h 113 j x) (wF w i x) := MU (by omega) m (if_neg (by omega)) rfl (wRel_set hij m.1 g)
theorem MU_H (hp : p < 10) (m : MWr h w) (g : goodW (wH w p x)) : MWr (gk_ha h 113 (11 + p) (x + 1)) (wH w p x) := MU (by omega) m rfl rfl (wR_H hp m.1 g)
theorem MU_P (hp : p < 10) (m : MWr h w) (g : goodW (wP w p x)) : MWr (gk_ha h 113 (41 + p) x) (wP w p x) := MU (by omega) m rfl rfl (wR_P hp m.1 g)
theorem MU_L (hp : p < 6) (m : MWr h w) (g : goodW (wL w p x)) : MWr (gk_ha h 113 (5 + p) x) (wL w p x) := MU (by omega) m rfl rfl (wR_L hp m.1 g)
theorem MU_1 {b : Bool} (hp : p < 10) (hx : ∀ q, q < 10 → nb_bit x q = if q = p then b else nb_bit (w.1 1) q) (m : MWr h w) (g : goodW (wF w 1 x)) : MWr (gk_ha h 113 (21 + p) (nb_b b)) (wF w 1 x) := MU (by omega) m rfl rfl (wR_1 hp hx m.1 g)
theorem MU_2 {b : Bool} (hp : p < 10) (hx : ∀ q, q < 10 → nb_bit x q = if q = p then b else nb_bit (w.1 2) q) (m : MWr h w) (g : goodW (wF w 2 x)) : MWr (gk_ha h 113 (31 + p) (nb_b b)) (wF w 2 x) := MU (by omega) m rfl rfl (wR_2 hp hx m.1 g)
theorem MU_D {y : Int64} {k : Nat} (hp : p < 10) (hk : k < 8) (hy : ∀ k', k' < 8 → lr y k' = if k' = k then x else lr (w.2.1 p) k') (m : MWr h w) (g : goodW (wD w p y)) : MWr (gk_ha h 113 (51 + 8 * p + k) x) (wD w p y) := MU (by omega) m rfl rfl (wR_D hp hk hy m.1 g)
end UPD
/-! a ground with a row told anew -/
theorem wrow_bit : ∀ r, r < 8 → ∀ c, c < 64 → nb_bitL (((255 : Int64) <<< (((8 : Int32) * nI r).toInt64 &&& 63)) ^^^ (-1 : Int64)) c = !decide (c / 8 = r) := by decide +kernel
theorem wrow_sh {r : Nat} (hr : r < 8) : (8 : Int32) * nI r = nI (8 * r) := nI_mulN 8 r
theorem lr_wrow {g : Int64} {r k v : Nat} (hr : r < 8) (hk : k < 8) (hv : v < 256) : lr (wrow g (nI r) (nI v)) k = if k = r then nI v else lr g k := by
  have bt : ∀ c, c < 64 → nb_bitL (wrow g (nI r) (nI v)) c = ((nb_bitL g c && !decide (c / 8 = r)) || (decide (8 * r ≤ c) && v.testBit (c - 8 * r))) := by
    intro c hc
    unfold wrow
    rw [bL_or, bL_and, wrow_bit r hr c hc, wrow_sh hr, bL_shl _ (by omega), decide_eq_true hc, Bool.true_and]
    have : nb_bitL (nI v).toInt64 (c - 8 * r) = v.testBit (c - 8 * r) := by
      have e : (nI v).toInt64 = Int64.ofNat v := by
        have : ∀ v, v < 256 → (nI v).toInt64 = Int64.ofNat v := by decide +kernel
        exact this v hv
      rw [e]
      unfold nb_bitL
      show (BitVec.ofNat 64 v).getLsbD _ = _
      rw [BitVec.getLsbD_ofNat]
      by_cases q : c - 8 * r < 64
      · rw [decide_eq_true q, Bool.true_and]
      · omega
    rw [this]
  have tz : ∀ i, 8 ≤ i → v.testBit i = false := fun i hi => Nat.testBit_lt_two_pow (Nat.lt_of_lt_of_le hv (show 2 ^ 8 ≤ 2 ^ i from Nat.pow_le_pow_right (by decide) hi))
  by_cases e : k = r
  · rw [if_pos e]
    refine lr_ext hv fun c hc => ?_
    rw [bt _ (by omega), decide_eq_true (show (8 * k + c) / 8 = r by omega), decide_eq_true (show 8 * r ≤ 8 * k + c by omega), show 8 * k + c - 8 * r = c by omega]
    simp
  · rw [if_neg e]
    have : lr g k = nI (g.toBitVec.toNat / 2 ^ (8 * k) % 256) := rfl
    rw [this]
    refine lr_ext (Nat.mod_lt _ (by decide)) fun c hc => ?_
    rw [lr_tb, decide_eq_true hc, bt _ (by omega), decide_eq_false (show ¬ (8 * k + c) / 8 = r by omega)]
    by_cases q : 8 * r ≤ 8 * k + c
    · rw [tz (8 * k + c - 8 * r) (by omega)]; simp
    · rw [decide_eq_false q]; simp
