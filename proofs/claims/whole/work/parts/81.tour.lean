/-! the ways between rooms, on both sides -/
def mnN (a b : Nat) : Nat := if b ≤ a then b else a
def flS (f : Nat → Nat) (o a b : Nat) : Nat → Nat := fun k => if k = 6 * a + b then mnN (f (6 * a + b)) (f (6 * a + o) + f (6 * o + b)) else f k
def flN (f : Nat → Nat) : Nat → Nat → Nat
  | 0 => f
  | i + 1 => flS (flN f i) (i / 36) (i / 6 % 6) (i % 6)
def fl0C (P : Nat → Nat) (k : Nat) : Nat := if P k = 0 then 1000000 else P k
def fl0M (P : Nat → Nat) (k : Nat) : Nat := if k / 6 = k % 6 then 0 else if P k = 0 then 100000000 else P k
def flR (B x y : Nat) : Prop := (x = y ∧ x ≤ B) ∨ (x = 1000000 ∧ y = 100000000)
def flI (i : Nat) (f g : Nat → Nat) : Prop := ∀ a b, a < 6 → b < 6 → (a = b → f (6 * a + b) ≤ 1000000 ∧ g (6 * a + b) = 0) ∧ (a ≠ b → flR (if 6 * a + b < i % 36 ∧ a ≠ i / 36 ∧ b ≠ i / 36 then 99 * 2 ^ (i / 36 + 1) else 99 * 2 ^ (i / 36)) (f (6 * a + b)) (g (6 * a + b)))
theorem flR_mono {B B' x y : Nat} (h : flR B x y) (hB : B ≤ B') : flR B' x y := by
  rcases h with ⟨h1, h2⟩ | h
  · exact Or.inl ⟨h1, by omega⟩
  · exact Or.inr h
theorem p99 : ∀ o, o < 7 → 99 * 2 ^ o ≤ 6336 ∧ 99 * 2 ^ (o + 1) = 2 * (99 * 2 ^ o) := by decide
theorem flI_step {i : Nat} {f g : Nat → Nat} (hi : i < 216) (h : flI i f g) : flI (i + 1) (flS f (i / 36) (i / 6 % 6) (i % 6)) (flS g (i / 36) (i / 6 % 6) (i % 6)) := by
  obtain ⟨o, ho⟩ : ∃ o, o = i / 36 := ⟨_, rfl⟩
  obtain ⟨a0, ha0⟩ : ∃ a0, a0 = i / 6 % 6 := ⟨_, rfl⟩
  obtain ⟨b0, hb0⟩ : ∃ b0, b0 = i % 6 := ⟨_, rfl⟩
  have o6 : o < 6 := by omega
  have a6 : a0 < 6 := by omega
  have b6 : b0 < 6 := by omega
  have im : i % 36 = 6 * a0 + b0 := by omega
  obtain ⟨q1, q2⟩ := p99 o (by omega)
  have st : ∀ a b, a < 6 → b < 6 → (a = b → flS f o a0 b0 (6 * a + b) ≤ 1000000 ∧ flS g o a0 b0 (6 * a + b) = 0) ∧ (a ≠ b → flR (if 6 * a + b < i % 36 + 1 ∧ a ≠ o ∧ b ≠ o then 99 * 2 ^ (o + 1) else 99 * 2 ^ o) (flS f o a0 b0 (6 * a + b)) (flS g o a0 b0 (6 * a + b))) := by
    intro a b ha hb
    obtain ⟨h1, h2⟩ := h a b ha hb
    rw [← ho] at h2
    unfold flS mnN
    by_cases z : 6 * a + b = 6 * a0 + b0
    · have za : a = a0 := by omega
      have zb : b = b0 := by omega
      subst za zb
      rw [if_pos rfl, if_pos rfl]
      refine ⟨fun e => ?_, fun e => ?_⟩
      · obtain ⟨x1, x2⟩ := h1 e
        refine ⟨?_, ?_⟩
        · split <;> omega
        · rw [x2]; split <;> omega
      · have h2 := h2 e
        rw [if_neg (by omega)] at h2
        by_cases zo : a = o
        · subst zo
          obtain ⟨x1, x2⟩ := (h a a ha ha).1 rfl
          rw [x2]
          have e1 : (if f (6 * a + a) + f (6 * a + b) ≤ f (6 * a + b) then f (6 * a + a) + f (6 * a + b) else f (6 * a + b)) = f (6 * a + b) := by split <;> omega
          have e2 : (if 0 + g (6 * a + b) ≤ g (6 * a + b) then 0 + g (6 * a + b) else g (6 * a + b)) = g (6 * a + b) := by split <;> omega
          rw [e1, e2, if_neg (by omega)]
          exact h2
        · by_cases zo2 : b = o
          · subst zo2
            obtain ⟨x1, x2⟩ := (h b b hb hb).1 rfl
            rw [x2]
            have e1 : (if f (6 * a + b) + f (6 * b + b) ≤ f (6 * a + b) then f (6 * a + b) + f (6 * b + b) else f (6 * a + b)) = f (6 * a + b) := by split <;> omega
            have e2 : (if g (6 * a + b) + 0 ≤ g (6 * a + b) then g (6 * a + b) + 0 else g (6 * a + b)) = g (6 * a + b) := by split <;> omega
            rw [e1, e2, if_neg (by omega)]
            exact h2
          · have s1 := (h a o ha o6).2 zo
            have s2 := (h o b o6 hb).2 (fun z => zo2 z.symm)
            rw [← ho, if_neg (by omega)] at s1 s2
            rw [if_pos ⟨by omega, zo, zo2⟩, q2]
            unfold flR at *
            split <;> split <;> omega
    · rw [if_neg z, if_neg z]
      refine ⟨h1, fun e => flR_mono (h2 e) ?_⟩
      by_cases c : 6 * a + b < i % 36 ∧ a ≠ o ∧ b ≠ o
      · rw [if_pos c, if_pos ⟨by omega, c.2⟩]; exact Nat.le_refl _
      · rw [if_neg c]; split <;> omega
  intro a b ha hb
  rw [← ho, ← ha0, ← hb0]
  obtain ⟨t1, t2⟩ := st a b ha hb
  refine ⟨t1, fun e => ?_⟩
  have t2 := t2 e
  by_cases w : i % 36 = 35
  · have w1 : (i + 1) / 36 = o + 1 := by omega
    have w2 : (i + 1) % 36 = 0 := by omega
    rw [w1, w2, if_neg (by omega)]
    refine flR_mono t2 ?_
    split <;> omega
  · have w1 : (i + 1) / 36 = o := by omega
    have w2 : (i + 1) % 36 = i % 36 + 1 := by omega
    rw [w1, w2]; exact t2
theorem flI_0 {P : Nat → Nat} (hP : ∀ k, k < 36 → P k ≤ 99) : flI 0 (fl0C P) (fl0M P) := by
  intro a b ha hb
  have h9 := hP (6 * a + b) (by omega)
  have d1 : (6 * a + b) / 6 = a := by omega
  have d2 : (6 * a + b) % 6 = b := by omega
  unfold fl0C fl0M
  rw [d1, d2]
  refine ⟨fun e => ⟨by split <;> omega, if_pos e⟩, fun e => ?_⟩
  rw [if_neg e, if_neg (show ¬ (6 * a + b < 0 % 36 ∧ a ≠ 0 / 36 ∧ b ≠ 0 / 36) by omega)]
  by_cases z : P (6 * a + b) = 0
  · rw [if_pos z, if_pos z]; exact Or.inr ⟨rfl, rfl⟩
  · rw [if_neg z, if_neg z]; exact Or.inl ⟨rfl, by omega⟩
theorem flI_all {P : Nat → Nat} (hP : ∀ k, k < 36 → P k ≤ 99) : ∀ i, i ≤ 216 → flI i (flN (fl0C P) i) (flN (fl0M P) i) := by
  intro i
  induction i with
  | zero => intro _; exact flI_0 hP
  | succ i ih => intro hi; exact flI_step (by omega) (ih (by omega))
/-- what the ways are in the end -/
theorem fl_end {P : Nat → Nat} (hP : ∀ k, k < 36 → P k ≤ 99) {a b : Nat} (ha : a < 6) (hb : b < 6) (hab : a ≠ b) : flR 6336 (flN (fl0C P) 216 (6 * a + b)) (flN (fl0M P) 216 (6 * a + b)) := by
  have := (flI_all hP 216 (Nat.le_refl _) a b ha hb).2 hab
  rw [if_neg (by omega)] at this
  exact flR_mono this (p99 6 (by decide)).1
theorem fl_bd {f : Nat → Nat} {B : Nat} (h : ∀ k, k < 36 → f k ≤ B) : ∀ i, i ≤ 216 → ∀ k, k < 36 → flN f i k ≤ B := by
  intro i
  induction i with
  | zero => intro _; exact h
  | succ i ih =>
    intro hi k hk
    have h1 := ih (by omega) k hk
    rw [flN]
    unfold flS mnN
    split
    · rename_i q
      rw [← q]; split <;> omega
    · exact h1
/-- a row of the heap holds these numbers -/
def RN (h : gk_H) (k n : Nat) (f : Nat → Nat) : Prop := ∀ i, i < n → h.2.1 k i = nI (f i)
theorem RN_set {h : gk_H} {k n j v : Nat} {f : Nat → Nat} (r : RN h k n f) : RN (gk_ha h k j (nI v)) k n (fun i => if i = j then v else f i) := by
  intro i hi
  show (gk_ha h k j (nI v)).2.1 k i = nI (if i = j then v else f i)
  rw [OW_set]
  by_cases z : i = j
  · rw [if_pos z, if_pos z]
  · rw [if_neg z, if_neg z]; exact r i hi
theorem RN_fr {S : Nat → Prop} {h h' : gk_H} {k n : Nat} {f : Nat → Nat} (a : fr S h h') (hS : ¬ S k) (r : RN h k n f) : RN h' k n f := fun i hi => by rw [(a k hS).2.1]; exact r i hi
theorem mn_if {a b : Nat} (ha : a < 2 ^ 31) (hb : b < 2 ^ 31) : (if nI b < nI a then nI b else nI a) = nI (mnN a b) := by
  unfold mnN
  by_cases q : b < a
  · rw [if_pos (nI_lt q ha), if_pos (by omega)]
  · rw [if_neg (nI_nlt (by omega) hb)]
    by_cases z : b ≤ a
    · rw [if_pos z, show a = b by omega]
    · rw [if_neg z]
section TOUR1
variable {E : gk_E} {d : Nat} {h : gk_H} {K : gk_H → Prop} {P : Nat → Nat}
theorem s_tr_measure (hP : ∀ k, k < 36 → P k ≤ 99) (hp : RN h 16 36 P) (hk : ∀ h', fr (fun k => k = 90) h h' → RN h' 90 36 (flN (fl0C P) 216) → K h') : gk_cv E (d + 2) jtr_measure [.ref 89, .ref 16] h K := by
  refine gk_cv_mk (x_tr_measure (fe ?_))
  refine lp_up (N := 36) (fun i (s : gk_H) => g_tr_measure_2 E (d + 1) (gk_qv K) (nI i) s) (fun i s => fr (fun k => k = 90) h s ∧ RN s 90 i (fl0C P)) ?_ ?_ 0 h (by decide) ⟨fr_rf, fun i q => by omega⟩
  · rintro i s hi ⟨i1, i2⟩ ih
    have e := RN_fr i1 (by decide) hp i hi
    have p9 := hP i hi
    have nx : ∀ v, v = fl0C P i → g_tr_measure_2 E (d + 1) (gk_qv K) (nI (i + 1)) (gk_ha s 90 i (nI v)) := by
      rintro v rfl
      refine ih _ ⟨fr_tr i1 (fr_ha rfl), fun j hj => ?_⟩
      rw [OW_set]
      by_cases z : j = i
      · rw [if_pos z, z]
      · rw [if_neg z]; exact i2 j (by omega)
    refine x_tr_measure_2 (pk_le 36 i (fun q => by omega) (fun _ => ⟨vp_in_nI hi (by decide), ?_⟩))
    rw [nI_clamp (by omega), e]
    refine ⟨fun q => ⟨vp_in_nI hi (by decide), vp_in_nI hi (by decide), fe (fe ?_)⟩, fun q => ⟨vp_in_nI hi (by decide), fe (fe ?_)⟩⟩
    · rw [nI_1]
      refine nx _ ?_
      unfold fl0C
      rw [if_neg (fun z => q (by rw [z]; rfl))]
    · rw [nI_1]
      refine nx 1000000 ?_
      unfold fl0C
      rw [if_pos ((nI_eq (b := 0) (by omega) (by decide)).mp q)]
  · rintro s ⟨i1, i2⟩
    refine x_tr_measure_2 (pk_le 36 36 (fun _ => fe ?_) (fun q => by omega))
    have bd := fl_bd (f := fl0C P) (B := 1000000) (fun k hk => by have := hP k hk; unfold fl0C; split <;> omega)
    refine lp_up (N := 6) (fun o (s : gk_H) => g_tr_measure_39 E (d + 1) (gk_qv K) (nI o) s) (fun o s => fr (fun k => k = 90) h s ∧ RN s 90 36 (flN (fl0C P) (36 * o))) ?_ ?_ 0 s (by decide) ⟨i1, i2⟩
    · clear i1 i2 s
      rintro o s ho ⟨i1, i2⟩ iho
      refine x_tr_measure_39 (pk_le 6 o (fun q => by omega) (fun _ => fe ?_))
      refine lp_up (N := 6) (fun a (s : gk_H) => g_tr_measure_47 E (d + 1) (gk_qv K) (nI o) (nI a) s) (fun a s => fr (fun k => k = 90) h s ∧ RN s 90 36 (flN (fl0C P) (36 * o + 6 * a))) ?_ ?_ 0 s (by decide) ⟨i1, i2⟩
      · clear i1 i2 s
        rintro a s ha ⟨i1, i2⟩ iha
        refine x_tr_measure_47 (pk_le 6 a (fun q => by omega) (fun _ => fe ?_))
        refine lp_up (N := 6) (fun b (s : gk_H) => g_tr_measure_56 E (d + 1) (gk_qv K) (nI o) (nI a) (nI b) s) (fun b s => fr (fun k => k = 90) h s ∧ RN s 90 36 (flN (fl0C P) (36 * o + 6 * a + b))) ?_ ?_ 0 s (by decide) ⟨i1, i2⟩
        · clear i1 i2 s
          rintro b s hb ⟨i1, i2⟩ ihb
          have ix : ∀ x y, nI x * 6 + nI y = nI (6 * x + y) := by
            intro x y
            show nI x * nI 6 + nI y = _
            rw [nI_mulN, nI_add, Nat.mul_comm]
          have b1 := bd (36 * o + 6 * a + b) (by omega) (6 * a + o) (by omega)
          have b2 := bd (36 * o + 6 * a + b) (by omega) (6 * o + b) (by omega)
          have b3 := bd (36 * o + 6 * a + b) (by omega) (6 * a + b) (by omega)
          refine x_tr_measure_56 (pk_le 6 b (fun q => by omega) (fun _ => ?_))
          rw [ix, ix, ix, nI_clamp (n := 6 * a + o) (by omega), nI_clamp (n := 6 * o + b) (by omega), nI_clamp (n := 6 * a + b) (by omega), i2 _ (show 6 * a + o < 36 by omega), i2 _ (show 6 * o + b < 36 by omega), i2 _ (show 6 * a + b < 36 by omega), nI_add]
          refine ⟨vp_in_nI (by omega) (by decide), vp_in_nI (by omega) (by decide), fe ⟨vp_in_nI (by omega) (by decide), Nat.le_add_left _ _, vp_in_nI (by omega) (by decide), fe (fe ?_)⟩⟩
          rw [nI_1, mn_if (by omega) (by omega)]
          refine ihb _ ⟨fr_tr i1 (fr_ha rfl), ?_⟩
          have := RN_set (j := 6 * a + b) (v := mnN (flN (fl0C P) (36 * o + 6 * a + b) (6 * a + b)) (flN (fl0C P) (36 * o + 6 * a + b) (6 * a + o) + flN (fl0C P) (36 * o + 6 * a + b) (6 * o + b))) i2
          have e9 : flN (fl0C P) (36 * o + 6 * a + (b + 1)) = fun i => if i = 6 * a + b then mnN (flN (fl0C P) (36 * o + 6 * a + b) (6 * a + b)) (flN (fl0C P) (36 * o + 6 * a + b) (6 * a + o) + flN (fl0C P) (36 * o + 6 * a + b) (6 * o + b)) else flN (fl0C P) (36 * o + 6 * a + b) i := by
            rw [← Nat.add_assoc, flN, show (36 * o + 6 * a + b) / 36 = o by omega, show (36 * o + 6 * a + b) / 6 % 6 = a by omega, show (36 * o + 6 * a + b) % 6 = b by omega]
            rfl
          rw [e9]; exact this
        · rintro s ⟨i1, i2⟩
          refine x_tr_measure_56 (pk_le 6 6 (fun _ => fe ?_) (fun q => by omega))
          rw [nI_1]
          exact iha s ⟨i1, i2⟩
      · rintro s ⟨i1, i2⟩
        refine x_tr_measure_47 (pk_le 6 6 (fun _ => fe ?_) (fun q => by omega))
        rw [nI_1]
        exact iho s ⟨i1, i2⟩
    · rintro s ⟨i1, i2⟩
      exact x_tr_measure_39 (pk_le 6 6 (fun _ => hk s i1 i2) (fun q => by omega))
theorem s_mo_findsWays (hP : ∀ k, k < 36 → P k ≤ 99) (hp : RN h 128 36 P) (hk : ∀ h', fr (fun k => k = 142) h h' → RN h' 142 36 (flN (fl0M P) 216) → K h') : gk_cv E (d + 2) jmo_findsWays [.ref 112] h K := by
  have ix : ∀ x y, (6 : Int32) * nI x + nI y = nI (6 * x + y) := by
    intro x y
    show nI 6 * nI x + nI y = _
    rw [nI_mulN, nI_add]
  refine gk_cv_mk (x_mo_findsWays (fe ?_))
  refine lp_up (N := 6) (fun a (s : gk_H) => g_mo_findsWays_2 E (d + 1) (gk_qv K) (nI a) s) (fun a s => fr (fun k => k = 142) h s ∧ RN s 142 (6 * a) (fl0M P)) ?_ ?_ 0 h (by decide) ⟨fr_rf, fun i q => by omega⟩
  · rintro a s ha ⟨i1, i2⟩ iha
    refine x_mo_findsWays_2 (pk_le 6 a (fun q => by omega) (fun _ => fe ?_))
    refine lp_up (N := 6) (fun b (s : gk_H) => g_mo_findsWays_10 E (d + 1) (gk_qv K) (nI a) (nI b) s) (fun b s => fr (fun k => k = 142) h s ∧ RN s 142 (6 * a + b) (fl0M P)) ?_ ?_ 0 s (by decide) ⟨i1, i2⟩
    · clear i1 i2 s
      rintro b s hb ⟨i1, i2⟩ ihb
      have e := RN_fr i1 (by decide) hp (6 * a + b) (by omega)
      have p9 := hP (6 * a + b) (by omega)
      have d1 : (6 * a + b) / 6 = a := by omega
      have d2 : (6 * a + b) % 6 = b := by omega
      have nx : ∀ v, v = fl0M P (6 * a + b) → g_mo_findsWays_10 E (d + 1) (gk_qv K) (nI a) (nI (b + 1)) (gk_ha s 142 (6 * a + b) (nI v)) := by
        rintro v rfl
        refine ihb _ ⟨fr_tr i1 (fr_ha rfl), fun j hj => ?_⟩
        rw [OW_set]
        by_cases z : j = 6 * a + b
        · rw [if_pos z, z]
        · rw [if_neg z]; exact i2 j (by omega)
      refine x_mo_findsWays_10 (pk_le 6 b (fun q => by omega) (fun _ => ?_))
      rw [ix, nI_clamp (by omega), e, nI_eq (a := a) (b := b) (by omega) (by omega)]
      refine ⟨fun q0 => ⟨vp_in_nI (by omega) (by decide), fun q => ⟨vp_in_nI (by omega) (by decide), vp_in_nI (by omega) (by decide), fe (fe ?_)⟩, fun q => ⟨vp_in_nI (by omega) (by decide), fe (fe ?_)⟩⟩, fun q0 => ⟨vp_in_nI (by omega) (by decide), fe (fe ?_)⟩⟩
      · rw [nI_1]
        refine nx _ ?_
        unfold fl0M
        rw [d1, d2, if_neg q0, if_neg (fun z => q (by rw [z]; rfl))]
      · rw [nI_1]
        refine nx 100000000 ?_
        unfold fl0M
        rw [d1, d2, if_neg q0, if_pos ((nI_eq (b := 0) (by omega) (by decide)).mp q)]
      · rw [nI_1]
        refine nx 0 ?_
        unfold fl0M
        rw [d1, d2, if_pos q0]
    · rintro s ⟨i1, i2⟩
      refine x_mo_findsWays_10 (pk_le 6 6 (fun _ => fe ?_) (fun q => by omega))
      rw [nI_1]
      exact iha s ⟨i1, fun j hj => i2 j (by omega)⟩
  · rintro s ⟨i1, i2⟩
    refine x_mo_findsWays_2 (pk_le 6 6 (fun _ => fe ?_) (fun q => by omega))
    have bd := fl_bd (f := fl0M P) (B := 100000000) (fun k hk => by
      have := hP k hk
      unfold fl0M
      split
      · omega
      · split <;> omega)
    refine lp_up (N := 6) (fun o (s : gk_H) => g_mo_findsWays_81 E (d + 1) (gk_qv K) (nI o) s) (fun o s => fr (fun k => k = 142) h s ∧ RN s 142 36 (flN (fl0M P) (36 * o))) ?_ ?_ 0 s (by decide) ⟨i1, i2⟩
    · clear i1 i2 s
      rintro o s ho ⟨i1, i2⟩ iho
      refine x_mo_findsWays_81 (pk_le 6 o (fun q => by omega) (fun _ => fe ?_))
      refine lp_up (N := 6) (fun a (s : gk_H) => g_mo_findsWays_89 E (d + 1) (gk_qv K) (nI o) (nI a) s) (fun a s => fr (fun k => k = 142) h s ∧ RN s 142 36 (flN (fl0M P) (36 * o + 6 * a))) ?_ ?_ 0 s (by decide) ⟨i1, i2⟩
      · clear i1 i2 s
        rintro a s ha ⟨i1, i2⟩ iha
        refine x_mo_findsWays_89 (pk_le 6 a (fun q => by omega) (fun _ => fe ?_))
        refine lp_up (N := 6) (fun b (s : gk_H) => g_mo_findsWays_97 E (d + 1) (gk_qv K) (nI o) (nI a) (nI b) s) (fun b s => fr (fun k => k = 142) h s ∧ RN s 142 36 (flN (fl0M P) (36 * o + 6 * a + b))) ?_ ?_ 0 s (by decide) ⟨i1, i2⟩
        · clear i1 i2 s
          rintro b s hb ⟨i1, i2⟩ ihb
          have b1 := bd (36 * o + 6 * a + b) (by omega) (6 * a + o) (by omega)
          have b2 := bd (36 * o + 6 * a + b) (by omega) (6 * o + b) (by omega)
          have b3 := bd (36 * o + 6 * a + b) (by omega) (6 * a + b) (by omega)
          refine x_mo_findsWays_97 (pk_le 6 b (fun q => by omega) (fun _ => ?_))
          rw [ix, ix, ix, nI_clamp (n := 6 * a + o) (by omega), nI_clamp (n := 6 * o + b) (by omega), nI_clamp (n := 6 * a + b) (by omega), i2 _ (show 6 * a + o < 36 by omega), i2 _ (show 6 * o + b < 36 by omega), i2 _ (show 6 * a + b < 36 by omega), nI_add]
          refine ⟨vp_in_nI (by omega) (by decide), vp_in_nI (by omega) (by decide), vp_in_nI (by omega) (by decide), s_mo_lesser (by omega) (by omega) ⟨vp_in_nI (by omega) (by decide), fe (fe ?_)⟩⟩
          rw [nI_1]
          refine ihb _ ⟨fr_tr i1 (fr_ha rfl), ?_⟩
          have := RN_set (j := 6 * a + b) (v := mnN (flN (fl0M P) (36 * o + 6 * a + b) (6 * a + b)) (flN (fl0M P) (36 * o + 6 * a + b) (6 * a + o) + flN (fl0M P) (36 * o + 6 * a + b) (6 * o + b))) i2
          have e9 : flN (fl0M P) (36 * o + 6 * a + (b + 1)) = fun i => if i = 6 * a + b then mnN (flN (fl0M P) (36 * o + 6 * a + b) (6 * a + b)) (flN (fl0M P) (36 * o + 6 * a + b) (6 * a + o) + flN (fl0M P) (36 * o + 6 * a + b) (6 * o + b)) else flN (fl0M P) (36 * o + 6 * a + b) i := by
            rw [← Nat.add_assoc, flN, show (36 * o + 6 * a + b) / 36 = o by omega, show (36 * o + 6 * a + b) / 6 % 6 = a by omega, show (36 * o + 6 * a + b) % 6 = b by omega]
            rfl
          rw [e9]; exact this
        · rintro s ⟨i1, i2⟩
          refine x_mo_findsWays_97 (pk_le 6 6 (fun _ => fe ?_) (fun q => by omega))
          rw [nI_1]
          exact iha s ⟨i1, i2⟩
      · rintro s ⟨i1, i2⟩
        refine x_mo_findsWays_89 (pk_le 6 6 (fun _ => fe ?_) (fun q => by omega))
        rw [nI_1]
        exact iho s ⟨i1, i2⟩
    · rintro s ⟨i1, i2⟩
      exact x_mo_findsWays_81 (pk_le 6 6 (fun _ => hk s i1 i2) (fun q => by omega))
end TOUR1
