/-! carrying out, the reference -/
theorem lr_and {g y : Int64} {r : Nat} (hr : r < 8) : lr (g &&& (y ^^^ (-1 : Int64))) r = lr g r &&& (lr y r ^^^ (-1 : Int32)) := by
  refine bI_ext fun i hi => ?_
  rw [lr_bit, bL_and, bL_not, bI_and, bI_not, lr_bit, lr_bit, decide_eq_true hi]
  by_cases q : i < 8
  · rw [decide_eq_true q, decide_eq_true (show 8 * r + i < 64 by omega)]; simp
  · rw [decide_eq_false q]; simp
theorem lr_one {c r : Nat} (hc : c < 64) (hr : r < 8) : lr ((1 : Int64) <<< ((nI c).toInt64 &&& 63)) r = if r = c / 8 then (1 : Int32) <<< (nI (c % 8) &&& 31) else 0 := by
  refine bI_ext fun i hi => ?_
  rw [lr_bit, bL_one hc]
  by_cases e : r = c / 8
  · rw [if_pos e, bI_one (by omega)]
    by_cases q : i = c % 8
    · rw [decide_eq_true (show i < 8 by omega), decide_eq_true (show 8 * r + i = c by omega), decide_eq_true q]; rfl
    · by_cases q8 : i < 8
      · rw [decide_eq_false (show ¬ 8 * r + i = c by omega), decide_eq_false q]; simp
      · rw [decide_eq_false q8, decide_eq_false q]; rfl
  · rw [if_neg e, bI_0]
    by_cases q8 : i < 8
    · rw [decide_eq_false (show ¬ 8 * r + i = c by omega)]; simp
    · rw [decide_eq_false q8]; rfl
theorem lr_or {g y : Int64} {r : Nat} : lr (g ||| y) r = lr g r ||| lr y r := by
  refine bI_ext fun i hi => ?_
  rw [lr_bit, bL_or, bI_or, lr_bit, lr_bit]
  cases decide (i < 8) <;> simp
theorem lr_wipe {g : Int64} {c r : Nat} (hc : c < 64) (hr : r < 8) : lr (g &&& (((1 : Int64) <<< ((nI c).toInt64 &&& 63)) ^^^ (-1 : Int64))) r = if r = c / 8 then lr g r &&& (((1 : Int32) <<< (nI (c % 8) &&& 31)) ^^^ (-1 : Int32)) else lr g r := by
  rw [lr_and hr, lr_one hc hr]
  by_cases e : r = c / 8
  · rw [if_pos e, if_pos e]
  · rw [if_neg e, if_neg e]
    refine bI_ext fun i hi => ?_
    rw [bI_and, bI_not, bI_0, decide_eq_true hi]; simp
section AM
variable {E : gk_E} {d : Nat} {h : gk_H} {s : gS} {n : Nat} {th : Bool} {K : gk_H → Prop} {p : Nat}
theorem s_mo_isBought (hp : p < n) (m : MS n th h s) (g : gd n s) (k : ∀ h', MS n th h' (buyP th p s) → fr SM h h' → K h') : gk_cv E (d + 7) jmo_isBought [.ref 112, .int (nI p)] h K := by
  have hn := g.1.1.1
  have c3 : (3 : Int32).toNatClampNeg = 3 := by decide
  refine gk_cv_mk (x_mo_isBought ((s_mo_tells (by omega) m.1 m.2.1 g.2).1 _ fun h1 f1 => fe ⟨vpi (by decide), vpi (by decide), ?_⟩))
  have m1 : MS n th h1 s := MS_fr f1 (fun k h1 h2 q => by unfold S_as at q; omega) m
  rw [c3, (MW_0 m1.1).2.2.2.1, show (41 : Int32) + nI p = nI (41 + p) from nI_add 41 p, show (21 : Int32) + nI p = nI (21 + p) from nI_add 21 p, nI_clamp (n := 41 + p) (by omega), nI_clamp (n := 21 + p) (by omega)]
  refine fe ⟨vp_in_nI (by omega) (by decide), fe ⟨vp_in_nI (by omega) (by decide), fe ?_⟩⟩
  have g1 : GW n (wF s.1 3 (s.1.1 3 - wor s.1 s.2 p)) := GW_F (by decide) g.1
  have g2 : GW n (wP (wF s.1 3 (s.1.1 3 - wor s.1 s.2 p)) p (wor s.1 s.2 p)) := GW_P hp g1
  have g3 : GW n (wF (wP (wF s.1 3 (s.1.1 3 - wor s.1 s.2 p)) p (wor s.1 s.2 p)) 1 (s.1.1 1 ||| ((1 : Int32) <<< (nI p &&& 31)))) := GW_1 (low_set hn hp (GW_own g.1)) g2
  have w1 := MU_F (i := 3) (j := 3) (by omega) m1.1 (GW_to g1)
  have w2 := MU_P (by omega) w1 (GW_to g2)
  have w3 := MU_1 (b := true) (by omega) (fun q _ => bit_set (by omega) q) w2 (GW_to g3)
  have F := fr_tr (S := fun k => k = 113) (fr_tr (fr_ha (h := h1) (i := 3) (x := s.1.1 3 - wor s.1 s.2 p) rfl) (fr_ha (i := 41 + p) (x := wor s.1 s.2 p) rfl)) (fr_ha (i := 21 + p) (x := nb_b true) rfl)
  exact s_mo_notes (MS_w F m1 w3) g3 fun h' m' f' => k h' m' (fr_tr (fr_mo f1 SAS) (fr_tr (fr_mo F S113) f'))
theorem s_mo_sells (hp : p < n) (m : MS n th h s) (g : gd n s) (k : ∀ h', MS n th h' (sellP th p s) → fr SM h h' → K h') : gk_cv E (d + 7) jmo_sells [.ref 112, .int (nI p)] h K := by
  have hn := g.1.1.1
  refine gk_cv_mk (x_mo_sells ((s_mo_tells (by omega) m.1 m.2.1 g.2).1 _ fun h1 f1 => fe ?_))
  have m1 : MS n th h1 s := MS_fr f1 (fun k h1 h2 q => by unfold S_as at q; omega) m
  have g1 : GW n (earnP (wor s.1 s.2 p) s.1) := GW_F (by decide) g.1
  have g2 : GW n (wP (earnP (wor s.1 s.2 p) s.1) p 0) := GW_P hp g1
  have g3 : GW n (wH (wP (earnP (wor s.1 s.2 p) s.1) p 0) p (-1)) := GW_H hp (Or.inl rfl) g2
  have g4 : GW n (wF (wH (wP (earnP (wor s.1 s.2 p) s.1) p 0) p (-1)) 1 (s.1.1 1 &&& (((1 : Int32) <<< (nI p &&& 31)) ^^^ (-1 : Int32)))) := GW_1 (low_clr (GW_own g.1)) g3
  refine s_mo_getsPaid m1.1 (GW_to g1) fun h2 w1 f2 => ?_
  rw [show (41 : Int32) + nI p = nI (41 + p) from nI_add 41 p, show (21 : Int32) + nI p = nI (21 + p) from nI_add 21 p, show (11 : Int32) + nI p = nI (11 + p) from nI_add 11 p, nI_clamp (n := 41 + p) (by omega), nI_clamp (n := 21 + p) (by omega), nI_clamp (n := 11 + p) (by omega)]
  refine ⟨vp_in_nI (by omega) (by decide), fe ⟨vp_in_nI (by omega) (by decide), fe ⟨vp_in_nI (by omega) (by decide), fe ?_⟩⟩⟩
  have w2 := MU_P (by omega) w1 (GW_to g2)
  have w3 := MU_H (by omega) w2 (GW_to g3)
  have w4 := MU_1 (b := false) (by omega) (fun q hq => bit_clr (by omega) q (by omega)) w3 (GW_to g4)
  have F := fr_tr (S := fun k => k = 113) f2 (fr_tr (fr_tr (fr_ha (h := h2) (i := 41 + p) (x := 0) rfl) (fr_ha (i := 11 + p) (x := -1 + 1) rfl)) (fr_ha (i := 21 + p) (x := nb_b false) rfl))
  exact s_mo_notes (MS_w F m1 w4) g4 fun h' m' f' => k h' m' (fr_tr (fr_mo f1 SAS) (fr_tr (fr_mo F S113) f'))
theorem s_mo_hoses {r : Nat} (hp : p < n) (hr : r < 8) (m : MS n th h s) (g : gd n s) (k : ∀ h', MS n th h' (hoseP th p r s) → fr SM h h' → K h') : gk_cv E (d + 2) jmo_hoses [.ref 112, .int (nI p), .int (nI r)] h K := by
  have hn := g.1.1.1
  have g1 : GW n (wF s.1 2 (s.1.1 2 ||| ((1 : Int32) <<< (nI p &&& 31)))) := GW_2 (low_set hn hp (GW_hos g.1)) g.1
  have g2 : GW n (wD (wF s.1 2 (s.1.1 2 ||| ((1 : Int32) <<< (nI p &&& 31)))) p (wrow (s.1.2.1 p) (nI r) 0)) := GW_D hp g1
  refine gk_cv_mk (x_mo_hoses ?_)
  unfold w_mo_hoses
  rw [show (31 : Int32) + nI p = nI (31 + p) from nI_add 31 p, nI_clamp (n := 31 + p) (by omega)]
  refine ⟨vp_in_nI (by omega) (by decide), fe (s_mo_rowAt ⟨vp_in_nI (by omega) (by decide), fe ?_⟩)⟩
  rw [nI_clamp (by omega)]
  have w1 := MU_2 (b := true) (by omega) (fun q _ => bit_set (by omega) q) m.1 (GW_to g1)
  have w2 := MU_D (w := wF s.1 2 (s.1.1 2 ||| ((1 : Int32) <<< (nI p &&& 31)))) (x := 0) (y := wrow (s.1.2.1 p) (nI r) 0) (by omega) hr (fun k' hk' => lr_wrow (g := s.1.2.1 p) (v := 0) hr hk' (by decide)) w1 (GW_to g2)
  have F := fr_tr (S := fun k => k = 113) (fr_ha (h := h) (i := 31 + p) (x := nb_b true) rfl) (fr_ha (i := 51 + 8 * p + r) (x := 0) rfl)
  exact s_mo_notes (MS_w F m w2) g2 fun h' m' f' => k h' m' (fr_tr (fr_mo F S113) f')
theorem s_mo_wets {c : Nat} (hp : p < n) (hc : c < 64) (m : MS n th h s) (g : gd n s) (k : ∀ h', MS n th h' (wipeP p c s) → fr SM h h' → K h') : gk_cv E (d + 2) jmo_wets [.ref 112, .int (nI p), .int (nI c)] h K := by
  have hn := g.1.1.1
  have e1 : nI c / 8 = nI (c / 8) := pk_div (d := 8) (by omega) (by omega) (by omega)
  have e2 : nI c - nI c / 8 * 8 = nI (c % 8) := pk_rem (d := 8) (by omega) (by omega) (by omega)
  refine gk_cv_mk (x_mo_wets ?_)
  unfold w_mo_wets
  rw [e2, e1]
  refine ⟨by decide, s_mo_rowAt ⟨by decide, s_mo_rowAt ⟨vp_in_nI (by omega) (by decide), by decide, vp_in_nI (by omega) (by decide), ?_⟩⟩⟩
  rw [nI_clamp (by omega), (MW_p m.1 (p := p) (by omega)).2.2.2.2 (c / 8) (by omega)]
  have w1 := MU_D (p := p) (k := c / 8) (y := s.1.2.1 p &&& (((1 : Int64) <<< ((nI c).toInt64 &&& 63)) ^^^ (-1 : Int64))) (x := lr (s.1.2.1 p) (c / 8) &&& (((1 : Int32) <<< (nI (c % 8) &&& 31)) ^^^ (-1 : Int32))) (by omega) (by omega) (fun k' hk' => by
    rw [lr_wipe hc hk']
    by_cases z : k' = c / 8
    · rw [if_pos z, if_pos z, z]
    · rw [if_neg z, if_neg z]) m.1 (GW_to (GW_D hp g.1))
  have F := fr_ha (S := fun k => k = 113) (h := h) (k := 113) (i := 51 + 8 * p + c / 8) (x := lr (s.1.2.1 p) (c / 8) &&& (((1 : Int32) <<< (nI (c % 8) &&& 31)) ^^^ (-1 : Int32))) rfl
  exact k _ (MS_w F m w1) (fr_mo F S113)
theorem s_mo_acts {a0 a1 a2 : Int32} {a c : Nat} (i : isD n a0 a1 a2 a p c) (m : MS n th h s) (g : gd n s) (k : ∀ h', MS n th h' (doP th a p c s) → fr SM h h' → K h') : gk_cv E (d + 8) jmo_acts [.ref 112, .int a0, .int a1, .int a2] h K := by
  obtain ⟨i1, i2, i3, o1, o2, o3, o4, o5, o6, o7⟩ := i
  have hn := g.1.1.1
  rw [i1, i2]
  have ha : a = 0 ∨ a = 1 ∨ a = 2 ∨ a = 3 ∨ a = 4 ∨ a = 5 := by omega
  rcases ha with e | e | e | e | e | e
  · rw [e] at k ⊢
    rw [doP_0] at k
    exact gk_cv_mk (x_mo_acts (zT rfl (s_mo_isBought (o2 (by omega)) m g fun h' m' f' => zF (by decide) (zF (by decide) (zF (by decide) (zF (by decide) (zF (by decide) (k h' m' f'))))))))
  · rw [e] at k ⊢
    rw [doP_1] at k
    exact gk_cv_mk (x_mo_acts (zF (by decide) (zT rfl (s_mo_sells (o2 (by omega)) m g fun h' m' f' => zF (by decide) (zF (by decide) (zF (by decide) (zF (by decide) (k h' m' f'))))))))
  · rw [i3 (by omega)]
    rw [e] at k ⊢
    rw [doP_2] at k
    have hp := o2 (by omega)
    have hc := o4 e
    have g1 : GW n (wH s.1 p (nI c)) := GW_H hp (Or.inr ⟨c, hc, rfl⟩) g.1
    have w1 := MU_H (x := nI c) (by omega) m.1 (GW_to g1)
    have F := fr_ha (S := fun k => k = 113) (h := h) (k := 113) (i := 11 + p) (x := nI c + 1) rfl
    refine gk_cv_mk (x_mo_acts (zF (by decide) (zF (by decide) (zT rfl ?_))))
    rw [show (11 : Int32) + nI p = nI (11 + p) from nI_add 11 p, nI_clamp (n := 11 + p) (by omega)]
    exact ⟨vp_in_nI (by omega) (by decide), fe (s_mo_notes (MS_w F m w1) g1 fun h' m' f' => zF (by decide) (zF (by decide) (zF (by decide) (k h' m' (fr_tr (fr_mo F S113) f')))))⟩
  · rw [i3 (by omega)]
    rw [e] at k ⊢
    rw [doP_3] at k
    have hp := o3 e
    have w1 := MU_L (x := nI c) hp m.1 (GW_to (GW_L g.1))
    have F := fr_ha (S := fun k => k = 113) (h := h) (k := 113) (i := 5 + p) (x := nI c) rfl
    refine gk_cv_mk (x_mo_acts (zF (by decide) (zF (by decide) (zF (by decide) (zT rfl ?_)))))
    rw [show (5 : Int32) + nI p = nI (5 + p) from nI_add 5 p, nI_clamp (n := 5 + p) (by omega)]
    exact ⟨vp_in_nI (by omega) (by decide), fe (zF (by decide) (zF (by decide) (k _ (MS_w F m w1) (fr_mo F S113))))⟩
  · rw [i3 (by omega)]
    rw [e] at k ⊢
    rw [doP_4] at k
    exact gk_cv_mk (x_mo_acts (zF (by decide) (zF (by decide) (zF (by decide) (zF (by decide) (zT rfl (s_mo_hoses (o2 (by omega)) (o6 e) m g fun h' m' f' => zF (by decide) (k h' m' f'))))))))
  · rw [i3 (by omega)]
    rw [e] at k ⊢
    rw [doP_5] at k
    exact gk_cv_mk (x_mo_acts (zF (by decide) (zF (by decide) (zF (by decide) (zF (by decide) (zF (by decide) (zT rfl (s_mo_wets (o2 (by omega)) (o7 e) m g fun h' m' f' => k h' m' f'))))))))
end AM
