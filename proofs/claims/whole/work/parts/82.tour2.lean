/-! tours -/
set_option maxRecDepth 100000 in
theorem tf1 : ∀ S, S < 64 → ∀ j, j < 6 → S.testBit j = false → S + 2 ^ j < 64 ∧ (S + 2 ^ j).testBit j = true ∧ nI S ||| ((1 : Int32) <<< (nI j &&& 31)) = nI (S + 2 ^ j) := by decide +kernel
set_option maxRecDepth 100000 in
theorem tf2 : ∀ T, T < 64 → ∀ r, r < 6 → T.testBit r = true → 2 ^ r ≤ T ∧ (T - 2 ^ r).testBit r = false ∧ nI T &&& (((1 : Int32) <<< (nI r &&& 31)) ^^^ (-1 : Int32)) = nI (T - 2 ^ r) := by decide +kernel
theorem tf3 : ∀ a, a < 6 → ((1 : Int32) <<< (nI a &&& 31)) * 6 + nI a = nI (6 * 2 ^ a + a) ∧ (2 ^ a).testBit a = true ∧ 2 ^ a < 64 ∧ 0 < 2 ^ a := by decide +kernel
theorem bI_nI {S j : Nat} (hS : S < 2 ^ 32) : nb_bit (nI S) j = S.testBit j := by rw [nb_bit_toNat, pk_tn hS]
def dfC (F v : Nat → Nat) (r ini : Nat) : Nat → Nat
  | 0 => ini
  | k + 1 => if v k < 1000000 then mnN (dfC F v r ini k) (v k + F (6 * k + r)) else dfC F v r ini k
def iniC (a T r : Nat) : Nat := if T = 2 ^ a ∧ r = a then 0 else 1000000
def tabC (F : Nat → Nat) (a : Nat) : Nat → Nat → Nat → Nat
  | 0 => fun _ _ => 1000000
  | S + 1 => fun T r => if T = S then (if S.testBit r then dfC F (tabC F a S (S - 2 ^ r)) r (iniC a S r) 6 else 1000000) else tabC F a S T r
def dC (F : Nat → Nat) (a T r : Nat) : Nat := tabC F a (T + 1) T r
theorem tabC_st {F : Nat → Nat} {a T r : Nat} : ∀ k, tabC F a (T + 1 + k) T r = dC F a T r := by
  intro k
  induction k with
  | zero => rfl
  | succ k ih =>
    rw [← Nat.add_assoc]
    show (if T = T + 1 + k then _ else tabC F a (T + 1 + k) T r) = _
    rw [if_neg (by omega)]; exact ih
theorem dC_eq {F : Nat → Nat} {a T r : Nat} (h : T.testBit r = true) (hr : 2 ^ r ≤ T) : dC F a T r = dfC F (dC F a (T - 2 ^ r)) r (iniC a T r) 6 := by
  have p := Nat.two_pow_pos r
  have e : tabC F a T (T - 2 ^ r) = dC F a (T - 2 ^ r) := by
    funext k
    have := tabC_st (F := F) (a := a) (T := T - 2 ^ r) (r := k) (2 ^ r - 1)
    rwa [show T - 2 ^ r + 1 + (2 ^ r - 1) = T by omega] at this
  show (if T = T then (if T.testBit r then dfC F (tabC F a T (T - 2 ^ r)) r (iniC a T r) 6 else 1000000) else _) = _
  rw [if_pos rfl, if_pos h, e]
theorem dC_no {F : Nat → Nat} {a T r : Nat} (h : T.testBit r = false) : dC F a T r = 1000000 := by
  show (if T = T then (if T.testBit r then _ else 1000000) else _) = _
  rw [if_pos rfl, if_neg (by rw [h]; decide)]
theorem dfC_le {F v : Nat → Nat} {r ini : Nat} (hi : ini ≤ 1000000) : ∀ j, dfC F v r ini j ≤ 1000000 := by
  intro j
  induction j with
  | zero => exact hi
  | succ j ih =>
    rw [dfC]
    unfold mnN
    split
    · split <;> omega
    · exact ih
theorem iniC_le (a T r : Nat) : iniC a T r ≤ 1000000 := by unfold iniC; split <;> omega
theorem dC_le {F : Nat → Nat} {a T r : Nat} (hT : T < 64) (hr : r < 6) : dC F a T r ≤ 1000000 := by
  cases e : T.testBit r with
  | false => rw [dC_no e]; exact Nat.le_refl _
  | true => rw [dC_eq e (tf2 T hT r hr e).1]; exact dfC_le (iniC_le _ _ _) _
def dfM (W v : Nat → Nat) (R r : Nat) : Nat → Nat
  | 0 => 100000000
  | k + 1 => if R.testBit k then mnN (dfM W v R r k) (v k + W (6 * k + r)) else dfM W v R r k
def tabM (W : Nat → Nat) (a : Nat) : Nat → Nat → Nat → Nat
  | 0 => fun _ _ => 0
  | S + 1 => fun T r => if T = S then (if S - 2 ^ r = 0 then (if r = a then 0 else 100000000) else dfM W (tabM W a S (S - 2 ^ r)) (S - 2 ^ r) r 6) else tabM W a S T r
def dM (W : Nat → Nat) (a T r : Nat) : Nat := tabM W a (T + 1) T r
theorem tabM_st {W : Nat → Nat} {a T r : Nat} : ∀ k, tabM W a (T + 1 + k) T r = dM W a T r := by
  intro k
  induction k with
  | zero => rfl
  | succ k ih =>
    rw [← Nat.add_assoc]
    show (if T = T + 1 + k then _ else tabM W a (T + 1 + k) T r) = _
    rw [if_neg (by omega)]; exact ih
theorem dM_eq {W : Nat → Nat} {a T r : Nat} (hr : 2 ^ r ≤ T) : dM W a T r = if T - 2 ^ r = 0 then (if r = a then 0 else 100000000) else dfM W (dM W a (T - 2 ^ r)) (T - 2 ^ r) r 6 := by
  have p := Nat.two_pow_pos r
  have e : tabM W a T (T - 2 ^ r) = dM W a (T - 2 ^ r) := by
    funext k
    have := tabM_st (W := W) (a := a) (T := T - 2 ^ r) (r := k) (2 ^ r - 1)
    rwa [show T - 2 ^ r + 1 + (2 ^ r - 1) = T by omega] at this
  show (if T = T then (if T - 2 ^ r = 0 then _ else dfM W (tabM W a T (T - 2 ^ r)) (T - 2 ^ r) r 6) else _) = _
  rw [if_pos rfl, e]
theorem dfM_le {W v : Nat → Nat} {R r : Nat} : ∀ j, dfM W v R r j ≤ 100000000 := by
  intro j
  induction j with
  | zero => exact Nat.le_refl _
  | succ j ih =>
    rw [dfM]
    unfold mnN
    split
    · split <;> omega
    · exact ih
theorem dM_le {W : Nat → Nat} {a T r : Nat} (hr : 2 ^ r ≤ T) : dM W a T r ≤ 100000000 := by
  rw [dM_eq hr]
  split
  · split <;> omega
  · exact dfM_le _
/-- both tables tell the same -/
theorem d_rel {F W : Nat → Nat} {a : Nat} (hFW : ∀ x y, x < 6 → y < 6 → x ≠ y → flR 6336 (F (6 * x + y)) (W (6 * x + y))) : ∀ T, T < 64 → ∀ r, r < 6 → T.testBit r = true → flR (6336 * T) (dC F a T r) (dM W a T r) := by
  intro T
  induction T using Nat.strongRecOn with
  | ind T ih =>
    intro hT r hr hb
    obtain ⟨q1, q2, -⟩ := tf2 T hT r hr hb
    have p := Nat.two_pow_pos r
    rw [dC_eq hb q1, dM_eq q1]
    by_cases z : T - 2 ^ r = 0
    · rw [if_pos z, z]
      have e : dfC F (dC F a 0) r (iniC a T r) 6 = iniC a T r := by
        have : ∀ j, dfC F (dC F a 0) r (iniC a T r) j = iniC a T r := by
          intro j
          induction j with
          | zero => rfl
          | succ j ihj => rw [dfC, dC_no (Nat.zero_testBit j), if_neg (by omega), ihj]
        exact this 6
      rw [e]
      unfold iniC
      have eT : T = 2 ^ r := by omega
      by_cases y : r = a
      · rw [if_pos ⟨by rw [eT, y], y⟩, if_pos y]; exact Or.inl ⟨rfl, Nat.zero_le _⟩
      · rw [if_neg (fun w => y w.2), if_neg y]; exact Or.inr ⟨rfl, rfl⟩
    · rw [if_neg z]
      have e0 : iniC a T r = 1000000 := by
        unfold iniC
        rw [if_neg]
        rintro ⟨w1, w2⟩
        rw [w2] at z
        omega
      rw [e0]
      have fold : ∀ j, j ≤ 6 → flR (6336 * T) (dfC F (dC F a (T - 2 ^ r)) r 1000000 j) (dfM W (dM W a (T - 2 ^ r)) (T - 2 ^ r) r j) := by
        intro j
        induction j with
        | zero => intro _; exact Or.inr ⟨rfl, rfl⟩
        | succ j ihj =>
          intro hj
          have h1 := ihj (by omega)
          rw [dfC, dfM]
          cases e : (T - 2 ^ r).testBit j with
          | false =>
            rw [dC_no e, if_neg (by omega), if_neg (by decide)]
            exact h1
          | true =>
            rw [if_pos rfl]
            have h2 := ih (T - 2 ^ r) (by omega) (by omega) j (by omega) e
            have ne : j ≠ r := fun w => by rw [w, q2] at e; cases e
            have h3 := hFW j r (by omega) hr ne
            unfold flR mnN at *
            have lt : 6336 * (T - 2 ^ r) + 6336 ≤ 6336 * T := by omega
            have l2 : 6336 * T ≤ 399168 := by omega
            generalize 6336 * (T - 2 ^ r) = B1 at *
            generalize 6336 * T = B2 at *
            (repeat' split) <;> omega
      exact fold 6 (Nat.le_refl _)
def amN (v : Nat → Nat) : Nat → Nat
  | 0 => 0
  | j + 1 => if v (amN v j) ≤ v j then amN v j else j
theorem amN_lt (v : Nat → Nat) : ∀ j, j ≤ 6 → amN v j < 6 := by
  intro j
  induction j with
  | zero => intro _; show (0 : Nat) < 6; decide
  | succ j ih =>
    intro hj
    rw [amN]
    split
    · exact ih (by omega)
    · omega
theorem amN_eq {u v : Nat → Nat} (h : ∀ r, r < 6 → flR 399168 (u r) (v r)) : ∀ j, j ≤ 6 → amN u j = amN v j := by
  intro j
  induction j with
  | zero => intro _; rfl
  | succ j ih =>
    intro hj
    rw [amN, amN, ih (by omega)]
    have h1 := h (amN v j) (amN_lt v j (by omega))
    have h2 := h j (by omega)
    have : u (amN v j) ≤ u j ↔ v (amN v j) ≤ v j := by
      unfold flR at h1 h2
      omega
    by_cases z : v (amN v j) ≤ v j
    · rw [if_pos z, if_pos (this.mpr z)]
    · rw [if_neg z, if_neg (fun w => z (this.mp w))]
def pcN (S m t T r : Nat) : Nat := if T - 2 ^ r < S then 6 else if T - 2 ^ r = S then (if r < t then m + 1 else m) else 0
theorem pc_eq {S m t T r : Nat} (h : T - 2 ^ r = S) : pcN S m t T r = if r < t then m + 1 else m := by
  unfold pcN
  rw [if_neg (by omega), if_pos h]
theorem pc_lt {S m t T r : Nat} (h : T - 2 ^ r < S) : pcN S m t T r = 6 := if_pos h
theorem pc_gt {S m t T r : Nat} (h : S < T - 2 ^ r) : pcN S m t T r = 0 := by
  unfold pcN
  rw [if_neg (by omega), if_neg (by omega)]
theorem pc_ne {S m t m' t' T r : Nat} (h : ¬ T - 2 ^ r = S) : pcN S m t T r = pcN S m' t' T r := by
  unfold pcN
  rw [if_neg h, if_neg h]
def CI (F : Nat → Nat) (a S m t : Nat) (T r : Nat) : Nat := if T.testBit r then dfC F (dC F a (T - 2 ^ r)) r (iniC a T r) (pcN S m t T r) else 1000000
def RB (h : gk_H) (v : Nat → Nat → Nat) : Prop := ∀ T r, T < 64 → r < 6 → h.2.1 91 (6 * T + r) = nI (v T r)
theorem RB_c {h : gk_H} {v v' : Nat → Nat → Nat} (r : RB h v) (e : ∀ T r, T < 64 → r < 6 → v T r = v' T r) : RB h v' := fun T k h1 h2 => by rw [r T k h1 h2, e T k h1 h2]
theorem CI_at {F : Nat → Nat} {a S m t k : Nat} (hS : S < 64) (hk : k < 6) : CI F a S m t S k = dC F a S k := by
  unfold CI
  cases e : S.testBit k with
  | false => rw [if_neg (by decide), dC_no e]
  | true =>
    obtain ⟨q1, -, -⟩ := tf2 S hS k hk e
    have p := Nat.two_pow_pos k
    rw [if_pos rfl, dC_eq e q1]
    unfold pcN
    rw [if_pos (by omega)]
theorem CI_le {F : Nat → Nat} {a S m t T r : Nat} : CI F a S m t T r ≤ 1000000 := by
  unfold CI
  split
  · exact dfC_le (iniC_le _ _ _) _
  · exact Nat.le_refl _
section TOUR2
variable {E : gk_E} {d : Nat} {h : gk_H} {F : Nat → Nat} {a : Nat}
theorem s_tr_goOn {K : gk_H → Prop} {S m : Nat} (hF : ∀ k, k < 36 → F k ≤ 1000000) (hS : S < 64) (hm : m < 6) (hf : RN h 90 36 F) (hb : RB h (CI F a S m 0)) (hk : ∀ h', fr (fun k => k = 91) h h' → RB h' (CI F a S (m + 1) 0) → K h') : gk_cv E (d + 2) jtr_goOn [.ref 89, .int (nI S), .int (nI m)] h K := by
  have ix : ∀ x y, nI x * 6 + nI y = nI (6 * x + y) := by
    intro x y
    show nI x * nI 6 + nI y = _
    rw [nI_mulN, nI_add, Nat.mul_comm]
  have e0 : h.2.1 91 (6 * S + m) = nI (dC F a S m) := by rw [hb S m hS hm, CI_at hS hm]
  have dl := dC_le (F := F) (a := a) hS hm
  refine gk_cv_mk (x_tr_goOn ?_)
  unfold w_tr_goOn
  rw [ix, nI_clamp (by omega), e0]
  refine ⟨vp_in_nI (by omega) (by decide), fe (pk_lt (dC F a S m) 1000000 (fun q => fe ?_) (fun q => hk h fr_rf (RB_c hb fun T r h1 h2 => ?_)))⟩
  · refine lp_up (N := 6) (fun t (s : gk_H) => g_tr_goOn_22 E (d + 1) (gk_qv K) (nI S) (nI m) (nI (dC F a S m)) (nI t) s) (fun t s => fr (fun k => k = 91) h s ∧ RB s (CI F a S m t)) ?_ ?_ 0 h (by decide) ⟨fr_rf, hb⟩
    · rintro t s ht ⟨i1, i2⟩ ih
      refine x_tr_goOn_22 (pk_le 6 t (fun z => by omega) (fun _ => ?_))
      rw [nb_has0 _ (by omega), bI_nI (by omega)]
      refine ⟨fun z => fe ?_, fun z => fe ?_⟩
      · rw [nI_1]
        refine ih s ⟨i1, RB_c i2 fun T r h1 h2 => ?_⟩
        unfold CI
        cases e : T.testBit r with
        | false => rfl
        | true =>
          have : pcN S m t T r = pcN S m (t + 1) T r := by
            by_cases y : T - 2 ^ r = S
            · have : r ≠ t := fun w => by
                rw [w] at y
                have := (tf2 T h1 r h2 e).2.1
                rw [w, y] at this
                exact z this
              rw [pc_eq y, pc_eq y]
              by_cases x : r < t
              · rw [if_pos x, if_pos (by omega)]
              · rw [if_neg x, if_neg (by omega)]
            · exact pc_ne y
          rw [this]
      · obtain ⟨q1, q2, q3⟩ := tf1 S hS t ht z
        rw [q3, ix]
        have hT : S + 2 ^ t < 64 := q1
        rw [nI_clamp (n := 6 * (S + 2 ^ t) + t) (by omega), ix, nI_clamp (n := 6 * m + t) (by omega), RN_fr i1 (by decide) hf _ (show 6 * m + t < 36 by omega), i2 (S + 2 ^ t) t hT ht, nI_add]
        have fl := hF (6 * m + t) (by omega)
        have cl := CI_le (F := F) (a := a) (S := S) (m := m) (t := t) (T := S + 2 ^ t) (r := t)
        refine ⟨vp_in_nI (by omega) (by decide), vp_in_nI (by omega) (by decide), Nat.le_add_left _ _, vp_in_nI (by omega) (by decide), fe ?_⟩
        rw [nI_1, mn_if (by omega) (by omega)]
        refine ih _ ⟨fr_tr i1 (fr_ha rfl), fun T r h1 h2 => ?_⟩
        rw [OW_set]
        by_cases y : 6 * T + r = 6 * (S + 2 ^ t) + t
        · have y1 : T = S + 2 ^ t := by omega
          have y2 : r = t := by omega
          rw [if_pos y, y1, y2]
          congr 1
          unfold CI
          rw [if_pos q2, if_pos q2, pc_eq (Nat.add_sub_cancel ..), pc_eq (Nat.add_sub_cancel ..), Nat.add_sub_cancel, if_neg (by omega), if_pos (by omega), dfC, if_pos q]
        · rw [if_neg y, i2 T r h1 h2]
          congr 1
          unfold CI
          cases e : T.testBit r with
          | false => rfl
          | true =>
            have : pcN S m t T r = pcN S m (t + 1) T r := by
              by_cases x : T - 2 ^ r = S
              · have : r ≠ t := fun w => by
                  have := (tf2 T h1 r h2 e).1
                  rw [w] at x this
                  exact y (by rw [w]; omega)
                rw [pc_eq x, pc_eq x]
                by_cases x9 : r < t
                · rw [if_pos x9, if_pos (by omega)]
                · rw [if_neg x9, if_neg (by omega)]
              · exact pc_ne x
            rw [this]
    · rintro s ⟨i1, i2⟩
      refine x_tr_goOn_22 (pk_le 6 6 (fun _ => hk s i1 (RB_c i2 fun T r h1 h2 => ?_)) (fun z => by omega))
      unfold CI
      by_cases y : T - 2 ^ r = S
      · rw [pc_eq y, pc_eq y, if_pos h2, if_neg (show ¬ r < 0 by omega)]
      · rw [pc_ne y]
  · unfold CI
    cases e : T.testBit r with
    | false => rfl
    | true =>
      by_cases y : T - 2 ^ r = S
      · rw [pc_eq y, pc_eq y, if_neg (show ¬ r < 0 by omega), if_neg (show ¬ r < 0 by omega), if_pos rfl, if_pos rfl, dfC, y, if_neg (by omega)]
      · rw [pc_ne y]
theorem s_fill91 {K : gk_H → Prop} (hk : ∀ h', fr (fun k => k = 91) h h' → RN h' 91 384 (fun _ => 1000000) → K h') : gk_cv E (d + 1) jja_fill [.ref 91, .int 1000000] h K := by
  refine gk_cv_mk (x_ja_fill_91 (fe (fe ?_)))
  refine lp_up (N := 384) (fun i (s : gk_H) => g_ja_fill_91_5 E d (gk_qv K) 1000000 (nI i) (nI 384) s) (fun i s => fr (fun k => k = 91) h s ∧ RN s 91 i (fun _ => 1000000)) ?_ ?_ 0 h (by decide) ⟨fr_rf, fun i q => by omega⟩
  · rintro i s hi ⟨i1, i2⟩ ih
    refine x_ja_fill_91_5 (pk_le 384 i (fun q => by omega) (fun _ => ⟨vp_in_nI hi (by decide), fe ?_⟩))
    rw [nI_1, nI_clamp (by omega)]
    refine ih _ ⟨fr_tr i1 (fr_ha rfl), fun j hj => ?_⟩
    rw [OW_set]
    by_cases z : j = i
    · rw [if_pos z]; rfl
    · rw [if_neg z]; exact i2 j (by omega)
  · rintro s ⟨i1, i2⟩
    exact x_ja_fill_91_5 (pk_le 384 384 (fun _ => hk s i1 i2) (fun q => by omega))
theorem s_tr_lengthTo {K : Int32 → gk_H → Prop} {v : Nat → Nat → Nat} {r : Nat} (hr : r < 6) (hb : RB h v) (hk : K (nI (v 63 r)) h) : gk_ci E (d + 1) jtr_lengthTo [.ref 89, .int (nI r)] h K := by
  refine gk_ci_mk (x_tr_lengthTo ?_)
  unfold w_tr_lengthTo
  rw [show (378 : Int32) + nI r = nI (378 + r) from nI_add 378 r, nI_clamp (by omega)]
  refine ⟨vp_in_nI (by omega) (by decide), ?_⟩
  have := hb 63 r (by decide) hr
  rw [show 6 * 63 + r = 378 + r by omega] at this
  rw [this]; exact hk
def S_to (k : Nat) : Prop := k = 90 ∨ k = 91
theorem s_tr_lastRoom {K : Int32 → gk_H → Prop} {P : Nat → Nat} (ha : a < 6) (hP : ∀ k, k < 36 → P k ≤ 99) (hp : RN h 16 36 P) (hk : ∀ h', fr S_to h h' → RB h' (dC (flN (fl0C P) 216) a) → K (if dC (flN (fl0C P) 216) a 63 (amN (dC (flN (fl0C P) 216) a 63) 6) < 1000000 then nI (amN (dC (flN (fl0C P) 216) a 63) 6) else -1) h') : gk_ci E (d + 3) jtr_lastRoom [.ref 89, .ref 16, .int (nI a)] h K := by
  have hF := fl_bd (f := fl0C P) (B := 1000000) (fun k hk => by have := hP k hk; unfold fl0C; split <;> omega) 216 (Nat.le_refl _)
  obtain ⟨t1, t2, t3, t4⟩ := tf3 a ha
  refine gk_ci_mk (x_tr_lastRoom (s_tr_measure hP hp fun h1 f1 r1 => s_fill91 fun h2 f2 r2 => ?_))
  generalize flN (fl0C P) 216 = F at *
  rw [t1, nI_clamp (by omega)]
  refine ⟨vp_in_nI (by omega) (by decide), fe ?_⟩
  have f3 : fr S_to h (gk_ha h2 91 (6 * 2 ^ a + a) 0) := fr_tr (fr_mo f1 (fun k q => Or.inl q)) (fr_tr (fr_mo f2 (fun k q => Or.inr q)) (fr_ha (Or.inr rfl)))
  have r3 : RN (gk_ha h2 91 (6 * 2 ^ a + a) 0) 90 36 F := fun i hi => by
    rw [ha_a, if_neg (fun w => absurd w.1 (by decide))]
    exact RN_fr f2 (by decide) r1 i hi
  have b3 : RB (gk_ha h2 91 (6 * 2 ^ a + a) 0) (CI F a 0 0 0) := by
    intro T r h1 h2
    rw [OW_set]
    unfold CI
    by_cases z : 6 * T + r = 6 * 2 ^ a + a
    · have z1 : T = 2 ^ a := by omega
      have z2 : r = a := by omega
      rw [if_pos z, z1, z2, if_pos t2]
      unfold pcN
      rw [if_neg (by omega), if_pos (by omega), if_neg (by omega), dfC]
      unfold iniC
      rw [if_pos ⟨rfl, rfl⟩]; rfl
    · rw [if_neg z, r2 _ (show 6 * T + r < 384 by omega)]
      congr 1
      cases e : T.testBit r with
      | false => rfl
      | true =>
        rw [if_pos rfl]
        have : pcN 0 0 0 T r = 0 := by
          unfold pcN
          rw [if_neg (by omega)]
          split
          · rw [if_neg (by omega)]
          · rfl
        rw [this, dfC]
        unfold iniC
        rw [if_neg (fun w => z (by rw [w.1, w.2]))]
  refine lp_up (N := 64) (fun S (s : gk_H) => g_tr_lastRoom_30 E (d + 2) (gk_qi K) (nI S) s) (fun S s => fr S_to h s ∧ RN s 90 36 F ∧ RB s (CI F a S 0 0)) ?_ ?_ 0 _ (by decide) ⟨f3, r3, b3⟩
  · clear f3 r3 b3
    rintro S s hS ⟨i1, i2, i3⟩ ihS
    refine x_tr_lastRoom_30 (pk_le 64 S (fun q => by omega) (fun _ => fe ?_))
    refine lp_up (N := 6) (fun m (s : gk_H) => g_tr_lastRoom_39 E (d + 2) (gk_qi K) (nI S) (nI m) s) (fun m s => fr S_to h s ∧ RN s 90 36 F ∧ RB s (CI F a S m 0)) ?_ ?_ 0 s (by decide) ⟨i1, i2, i3⟩
    · clear i1 i2 i3 s
      rintro m s hm ⟨i1, i2, i3⟩ ihm
      refine x_tr_lastRoom_39 (pk_le 6 m (fun q => by omega) (fun _ => s_tr_goOn hF hS hm i2 i3 fun h9 u1 u2 => fe ?_))
      rw [nI_1]
      exact ihm h9 ⟨fr_tr i1 (fr_mo u1 (fun k q => Or.inr q)), RN_fr u1 (by decide) i2, u2⟩
    · rintro s ⟨i1, i2, i3⟩
      refine x_tr_lastRoom_39 (pk_le 6 6 (fun _ => fe ?_) (fun q => by omega))
      rw [nI_1]
      refine ihS s ⟨i1, i2, RB_c i3 fun T r h1 h2 => ?_⟩
      unfold CI
      have : pcN S 6 0 T r = pcN (S + 1) 0 0 T r := by
        by_cases z : T - 2 ^ r < S
        · rw [pc_lt z, pc_lt (by omega)]
        · by_cases y : T - 2 ^ r = S
          · rw [pc_eq y, pc_lt (by omega), if_neg (by omega)]
          · rw [pc_gt (by omega)]
            by_cases x : T - 2 ^ r = S + 1
            · rw [pc_eq x, if_neg (by omega)]
            · rw [pc_gt (by omega)]
      rw [this]
  · rintro s ⟨i1, i2, i3⟩
    have b : RB s (dC F a) := RB_c i3 fun T r h1 h2 => by
      unfold CI
      cases e : T.testBit r with
      | false => rw [if_neg (by decide), dC_no e]
      | true =>
        rw [if_pos rfl, dC_eq e (tf2 T h1 r h2 e).1, pc_lt (Nat.lt_of_le_of_lt (Nat.sub_le ..) h1)]
    refine x_tr_lastRoom_30 (pk_le 64 64 (fun _ => fe (fe ?_)) (fun q => by omega))
    have hk := hk s i1 b
    have le : ∀ r, r < 6 → dC F a 63 r ≤ 1000000 := fun r hr => dC_le (by decide) hr
    have a1 : amN (dC F a 63) 1 = 0 := by
      show (if dC F a 63 0 ≤ dC F a 63 0 then 0 else 0) = 0
      rw [if_pos (Nat.le_refl _)]
    have e0 : (0 : Int32) = nI (amN (dC F a 63) 1) := by rw [a1]; rfl
    rw [e0]
    refine lp_up (N := 6) (fun j (_ : Unit) => g_tr_lastRoom_70 E (d + 2) (gk_qi K) (nI (amN (dC F a 63) j)) (nI j) s) (fun j _ => 1 ≤ j) ?_ ?_ 1 () (by decide) (Nat.le_refl _)
    · intro j _ hj h1 ihj
      have ihj := ihj () (by omega)
      rw [amN] at ihj
      have l1 := le _ (amN_lt (dC F a 63) j (by omega))
      have l2 := le j hj
      refine x_tr_lastRoom_70 (pk_le 6 j (fun q => by omega) (fun _ => s_tr_lengthTo hj b (s_tr_lengthTo (amN_lt _ j (by omega)) b (pk_le _ (dC F a 63 j) (fun q => fe ?_) (fun q => fe (fe ?_))))))
      · rw [if_pos q] at ihj; rw [nI_1]; exact ihj
      · rw [if_neg (by omega)] at ihj; rw [nI_1]; exact ihj
    · intro _ _
      have l1 := le _ (amN_lt (dC F a 63) 6 (by omega))
      refine x_tr_lastRoom_70 (pk_le 6 6 (fun _ => s_tr_lengthTo (amN_lt _ 6 (by omega)) b (pk_le 1000000 _ (fun q => ?_) (fun q => ?_))) (fun q => by omega))
      · rw [if_neg (by omega)] at hk; exact hk
      · rw [if_pos q] at hk; exact hk
theorem s_mo_leastTo {K : Int32 → gk_H → Prop} {W : Nat → Nat} {T r : Nat} (hW : ∀ k, k < 36 → W k ≤ 100000000) (ha : a < 6) (hT : T < 64) (hr : r < 6) (hb : T.testBit r = true) (hw : RN h 142 36 W) (ht : ∀ T' k, T' < T → k < 6 → T'.testBit k = true → h.2.1 143 (6 * T' + k) = nI (dM W a T' k)) (hk : K (nI (dM W a T r)) h) : gk_ci E (d + 2) jmo_leastTo [.ref 112, .int (nI T), .int (nI r), .int (nI a)] h K := by
  obtain ⟨q1, q2, q3⟩ := tf2 T hT r hr hb
  have p := Nat.two_pow_pos r
  have ix : ∀ x y, (6 : Int32) * nI x + nI y = nI (6 * x + y) := by
    intro x y
    show nI 6 * nI x + nI y = _
    rw [nI_mulN, nI_add]
  rw [dM_eq q1] at hk
  refine gk_ci_mk (x_mo_leastTo ?_)
  unfold w_mo_leastTo
  rw [q3]
  refine fe ⟨fun z => fe (fe ?_), fun z => ⟨fun y => ?_, fun y => ?_⟩⟩
  · have z : ¬ T - 2 ^ r = 0 := fun w => z (by rw [w]; rfl)
    rw [if_neg z] at hk
    refine lp_up (N := 6) (fun k (_ : Unit) => g_mo_leastTo_35 E (d + 1) (gk_qi K) (nI r) (nI (T - 2 ^ r)) (nI (dfM W (dM W a (T - 2 ^ r)) (T - 2 ^ r) r k)) (nI k) h) (fun _ _ => True) ?_ ?_ 0 () (by decide) trivial
    · intro k _ hk9 _ ih
      have ih := ih () trivial
      rw [dfM] at ih
      refine x_mo_leastTo_35 (pk_le 6 k (fun q => by omega) (fun _ => s_mo_has (by omega) ?_))
      rw [bI_nI (by omega)]
      refine bsel (fun q => fe ?_) (fun q => ?_)
      · rw [if_neg (by rw [q]; decide)] at ih; rw [nI_1]; exact ih
      · rw [if_pos q] at ih
        rw [ix, ix, nI_clamp (n := 6 * (T - 2 ^ r) + k) (by omega), nI_clamp (n := 6 * k + r) (by omega), ht (T - 2 ^ r) k (by omega) hk9 q, hw _ (show 6 * k + r < 36 by omega), nI_add]
        have l1 := dM_le (W := W) (a := a) (tf2 (T - 2 ^ r) (by omega) k hk9 q).1
        have l2 := hW (6 * k + r) (by omega)
        have l3 := dfM_le (W := W) (v := dM W a (T - 2 ^ r)) (R := T - 2 ^ r) (r := r) k
        refine ⟨vp_in_nI (by omega) (by decide), vp_in_nI (by omega) (by decide), s_mo_lesser (by omega) (by omega) (fe (fe ?_))⟩
        rw [nI_1]; exact ih
    · intro _ _
      exact x_mo_leastTo_35 (pk_le 6 6 (fun _ => hk) (fun q => by omega))
  · have z : T - 2 ^ r = 0 := (nI_eq (b := 0) (by omega) (by decide)).mp z
    rw [if_pos z, if_neg (fun w => y (by rw [w]))] at hk; exact hk
  · have z : T - 2 ^ r = 0 := (nI_eq (b := 0) (by omega) (by decide)).mp z
    rw [if_pos z, if_pos ((nI_eq (by omega) (by omega)).mp y)] at hk; exact hk
end TOUR2
def S_tm (k : Nat) : Prop := k = 142 ∨ k = 143
theorem lc_tour {E : gk_E} {d : Nat} (a0 a1 : Int32) : lc_ok E (d + 5) InvX jdp_tour jmo_tour [.int a0, .int a1] := by
  refine lc_q fun n w T X hn hw0 hgw hT => ?_
  by_cases ha : (0 : Int32) ≤ a0 ∧ a0 ≤ 5
  · by_cases hb : (0 : Int32) ≤ a1 ∧ a1 ≤ 1
    · obtain ⟨a, ha5, rfl⟩ := of05 (N := 5) (by decide) ha
      have hP : ∀ k, k < 36 → (T.2.1 k).toNatClampNeg ≤ 99 ∧ T.2.1 k = nI (T.2.1 k).toNatClampNeg := by
        intro k hk
        obtain ⟨v, v1, v2⟩ := hT.2.1 k hk
        rw [v2, nI_clamp (by omega)]
        exact ⟨v1, rfl⟩
      have hP1 : ∀ k, k < 36 → (fun k => (T.2.1 k).toNatClampNeg) k ≤ 99 := fun k hk => (hP k hk).1
      have hrel := d_rel (F := flN (fl0C fun k => (T.2.1 k).toNatClampNeg) 216) (W := flN (fl0M fun k => (T.2.1 k).toNatClampNeg) 216) (a := a) (fun x y h1 h2 h3 => fl_end hP1 h1 h2 h3) 63 (by decide)
      have b63 : ∀ r, r < 6 → (63 : Nat).testBit r = true := by decide
      have hrel : ∀ r, r < 6 → flR 399168 (dC (flN (fl0C fun k => (T.2.1 k).toNatClampNeg) 216) a 63 r) (dM (flN (fl0M fun k => (T.2.1 k).toNatClampNeg) 216) a 63 r) := fun r hr => hrel r hr (b63 r hr)
      have am := amN_eq hrel 6 (Nat.le_refl _)
      have i01 : a1 = 0 ∨ a1 = 1 := by
        obtain ⟨i, hi, rfl⟩ := of05 (N := 1) (by decide) hb
        have : i = 0 ∨ i = 1 := by omega
        rcases this with rfl | rfl
        · exact Or.inl rfl
        · exact Or.inr rfl
      have la := amN_lt (dM (flN (fl0M fun k => (T.2.1 k).toNatClampNeg) 216) a 63) 6 (Nat.le_refl _)
      have rl := hrel _ la
      have cW := fl_bd (f := fl0M fun k => (T.2.1 k).toNatClampNeg) (B := 100000000) (fun k hk => by
        have := hP1 k hk
        unfold fl0M
        split
        · omega
        · split <;> omega) 216 (Nat.le_refl _)
      have cR : ∀ h : gk_H, Vw h n w T X → RN h 16 36 (fun k => (T.2.1 k).toNatClampNeg) := by
        intro h v i hi
        have : h.2.1 16 i = T.2.1 i := v.2.2.2.2.2.2.1.2.1 i hi
        rw [this]; exact (hP i hi).2
      have cM : ∀ h : gk_H, Vw h n w T X → RN h 128 36 (fun k => (T.2.1 k).toNatClampNeg) := by
        intro h v i hi
        have : h.2.1 128 i = T.2.1 i := v.2.2.2.2.2.2.2.1.2.1 i hi
        rw [this]; exact (hP i hi).2
      have cC : ∀ (h : gk_H) (K : Int32 → gk_H → Prop), Vw h n w T X → (∀ h', Qs h h' → K (if dC (flN (fl0C fun k => (T.2.1 k).toNatClampNeg) 216) a 63 (amN (dC (flN (fl0C fun k => (T.2.1 k).toNatClampNeg) 216) a 63) 6) < 1000000 then (if a1 = 0 then nI (dC (flN (fl0C fun k => (T.2.1 k).toNatClampNeg) 216) a 63 (amN (dC (flN (fl0C fun k => (T.2.1 k).toNatClampNeg) 216) a 63) 6)) else nI (amN (dC (flN (fl0C fun k => (T.2.1 k).toNatClampNeg) 216) a 63) 6)) else -1) h') → gk_ci E (d + 5) jdp_tour (.ref 0 :: [.int (nI a), .int a1]) h K := by
        intro h K v k
        refine gk_ci_mk (x_dp_tour (s_rm1 ha (yF (by decide) (s_wi1 hb (zF (by decide) (s_tr_lastRoom (by omega) hP1 (cR h v) fun h' f1 b1 => fe ?_))))))
        have k := k h' (Qs_fr (fr_mo f1 (fun k q => by unfold S_to at q; unfold scr; omega)))
        generalize flN (fl0C fun k => (T.2.1 k).toNatClampNeg) 216 = F at *
        by_cases z : dC F a 63 (amN (dC F a 63) 6) < 1000000
        · rw [if_pos z] at k
          rw [if_pos z]
          have lc := amN_lt (dC F a 63) 6 (Nat.le_refl _)
          refine yF ?_ ⟨fun y => s_tr_lengthTo lc b1 ?_, fun y => ?_⟩
          · intro q
            have := nI_pos (n := amN (dC F a 63) 6) (by omega)
            rw [q] at this; exact absurd (by decide) this
          · rw [if_pos (i01.resolve_right y)] at k; exact k
          · rw [if_neg (by rw [y]; decide)] at k; exact k
        · rw [if_neg z] at k
          rw [if_neg z]
          exact yT rfl k
      refine ⟨_, cC, fun h K v k => ?_⟩
      have v2 := Vw_Qs (Qs_t (x := 0)) v
      have ix : ∀ x y, (6 : Int32) * nI x + nI y = nI (6 * x + y) := by
        intro x y
        show nI 6 * nI x + nI y = _
        rw [nI_mulN, nI_add]
      refine gk_ci_mk (x_mo_tour (fe (s_in1 ha (yF (by decide) (s_in1 hb (zF (by decide) (s_mo_findsWays hP1 (cM _ v2) fun h1 f1 r1 => fe ?_)))))))
      have f2 : fr S_tm (gk_hf h 112 0 0) h1 := fr_mo f1 (fun k q => Or.inl q)
      rw [am] at k
      generalize flN (fl0C fun k => (T.2.1 k).toNatClampNeg) 216 = F at *
      generalize flN (fl0M fun k => (T.2.1 k).toNatClampNeg) 216 = W at *
      refine lp_up (N := 64) (fun S (s : gk_H) => g_mo_tour_33 E (d + 4) (gk_qi K) (nI a) a1 (nI S) s) (fun S s => 1 ≤ S ∧ fr S_tm (gk_hf h 112 0 0) s ∧ RN s 142 36 W ∧ ∀ T' k, T' < S → k < 6 → T'.testBit k = true → s.2.1 143 (6 * T' + k) = nI (dM W a T' k)) ?_ ?_ 1 h1 (by decide) ⟨Nat.le_refl _, f2, r1, fun T' k h9 h8 h7 => by rw [show T' = 0 by omega, Nat.zero_testBit] at h7; cases h7⟩
      · clear f1 f2 r1
        rintro S s hS ⟨i0, i1, i2, i3⟩ ihS
        refine x_mo_tour_33 (pk_le 64 S (fun q => by omega) (fun _ => fe ?_))
        refine lp_up (N := 6) (fun r (s : gk_H) => g_mo_tour_42 E (d + 4) (gk_qi K) (nI a) a1 (nI S) (nI r) s) (fun r s => fr S_tm (gk_hf h 112 0 0) s ∧ RN s 142 36 W ∧ ∀ T' k, (T' < S ∨ (T' = S ∧ k < r)) → k < 6 → T'.testBit k = true → s.2.1 143 (6 * T' + k) = nI (dM W a T' k)) ?_ ?_ 0 s (by decide) ⟨i1, i2, fun T' k h9 => i3 T' k (by omega)⟩
        · clear i1 i2 i3 s
          rintro r s hr ⟨i1, i2, i3⟩ ihr
          refine x_mo_tour_42 (pk_le 6 r (fun q => by omega) (fun _ => s_mo_has (by omega) ?_))
          rw [bI_nI (by omega)]
          refine bsel (fun q => fe ?_) (fun q => s_mo_leastTo cW (by omega) hS hr q i2 (fun T' k h9 h8 h7 => i3 T' k (Or.inl h9) h8 h7) ?_)
          · rw [nI_1]
            refine ihr s ⟨i1, i2, fun T' k h9 h8 h7 => i3 T' k ?_ h8 h7⟩
            by_cases z : T' = S ∧ k = r
            · rw [z.1, z.2, q] at h7; cases h7
            · omega
          · rw [ix, nI_clamp (by omega)]
            refine ⟨vp_in_nI (by omega) (by decide), fe (fe ?_)⟩
            rw [nI_1]
            refine ihr _ ⟨fr_tr i1 (fr_ha (Or.inr rfl)), fun i hi => ?_, fun T' k h9 h8 h7 => ?_⟩
            · rw [ha_a, if_neg (fun w => absurd w.1 (by decide))]; exact i2 i hi
            · rw [OW_set]
              by_cases z : 6 * T' + k = 6 * S + r
              · rw [if_pos z, show T' = S by omega, show k = r by omega]
              · rw [if_neg z]; exact i3 T' k (by omega) h8 h7
        · rintro s ⟨i1, i2, i3⟩
          refine x_mo_tour_42 (pk_le 6 6 (fun _ => fe ?_) (fun q => by omega))
          rw [nI_1]
          exact ihS s ⟨by omega, i1, i2, fun T' k h9 h8 h7 => i3 T' k (by omega) h8 h7⟩
      · clear f1 f2 r1
        rintro s ⟨-, i1, i2, i3⟩
        refine x_mo_tour_33 (pk_le 64 64 (fun _ => fe (fe ?_)) (fun q => by omega))
        have v63 : ∀ r, r < 6 → s.2.1 143 (378 + r) = nI (dM W a 63 r) ∧ dM W a 63 r ≤ 100000000 := fun r hr => by
          have := i3 63 r (by decide) hr (b63 r hr)
          rw [show 6 * 63 + r = 378 + r by omega] at this
          exact ⟨this, dM_le (tf2 63 (by decide) r hr (b63 r hr)).1⟩
        have k := k s (Qs_tr Qs_t (Qs_134 (fun k q => by unfold S_tm at q; omega) i1))
        have a1' : amN (dM W a 63) 1 = 0 := by
          show (if dM W a 63 0 ≤ dM W a 63 0 then 0 else 0) = 0
          rw [if_pos (Nat.le_refl _)]
        have e0 : (0 : Int32) = nI (amN (dM W a 63) 1) := by rw [a1']; rfl
        rw [e0]
        refine lp_up (N := 6) (fun j (_ : Unit) => g_mo_tour_96 E (d + 4) (gk_qi K) a1 (nI (amN (dM W a 63) j)) (nI j) s) (fun j _ => 1 ≤ j) ?_ ?_ 1 () (by decide) (Nat.le_refl _)
        · intro j _ hj h1 ihj
          have ihj := ihj () (by omega)
          rw [amN] at ihj
          obtain ⟨u1, u2⟩ := v63 _ (amN_lt (dM W a 63) j (by omega))
          obtain ⟨w1, w2⟩ := v63 j hj
          have lj := amN_lt (dM W a 63) j (by omega)
          refine x_mo_tour_96 (pk_le 6 j (fun q => by omega) (fun _ => ?_))
          rw [show (378 : Int32) + nI j = nI (378 + j) from nI_add 378 j, show (378 : Int32) + nI (amN (dM W a 63) j) = nI (378 + amN (dM W a 63) j) from nI_add 378 _, nI_clamp (n := 378 + j) (by omega), nI_clamp (n := 378 + amN (dM W a 63) j) (by omega), u1, w1]
          refine ⟨vp_in_nI (by omega) (by decide), vp_in_nI (by omega) (by decide), pk_le _ (dM W a 63 j) (fun q => fe ?_) (fun q => fe (fe ?_))⟩
          · rw [if_pos q] at ihj; rw [nI_1]; exact ihj
          · rw [if_neg (by omega)] at ihj; rw [nI_1]; exact ihj
        · intro _ _
          obtain ⟨u1, u2⟩ := v63 _ (amN_lt (dM W a 63) 6 (by omega))
          refine x_mo_tour_96 (pk_le 6 6 (fun _ => ?_) (fun q => by omega))
          rw [show (378 : Int32) + nI (amN (dM W a 63) 6) = nI (378 + amN (dM W a 63) 6) from nI_add 378 _, nI_clamp (n := 378 + amN (dM W a 63) 6) (by omega), u1]
          refine ⟨vp_in_nI (by omega) (by decide), pk_lt _ 100000000 (fun q => ⟨fun y => ?_, fun y => ⟨vp_in_nI (by omega) (by decide), ?_⟩⟩) (fun q => ?_)⟩
          · rw [if_pos (by unfold flR at rl; omega), if_neg y] at k; exact k
          · rw [if_pos (by unfold flR at rl; omega), if_pos y] at k
            have : dC F a 63 (amN (dM W a 63) 6) = dM W a 63 (amN (dM W a 63) 6) := by unfold flR at rl; omega
            rw [this] at k; exact k
          · rw [if_neg (by unfold flR at rl; omega)] at k; exact k
    · refine ⟨-1, fun h K v k => ?_, fun h K v k => ?_⟩
      · exact gk_ci_mk (x_dp_tour (s_rm1 ha (yF (by decide) (s_wi0 hb (zT rfl (k h Qs_rf))))))
      · exact gk_ci_mk (x_mo_tour (fe (s_in1 ha (yF (by decide) (s_in0 hb (zT rfl (k _ Qs_t)))))))
  · refine ⟨-1, fun h K v k => ?_, fun h K v k => ?_⟩
    · exact gk_ci_mk (x_dp_tour (s_rm0 ha (yT rfl (k h Qs_rf))))
    · exact gk_ci_mk (x_mo_tour (fe (s_in0 ha (yT rfl (k _ Qs_t)))))
