/-! deeds, the reference -/
def MS (n : Nat) (th : Bool) (h : gk_H) (s : gS) : Prop := MWr h s.1 ∧ MTl h s.2 ∧ h.1 112 5 = nb_b th ∧ h.1 112 6 = nI n
def SM (k : Nat) : Prop := k = 113 ∨ k = 117 ∨ k = 131 ∨ k = 132 ∨ k = 133
theorem bsel1 {b : Bool} {X Y : Prop} (h0 : b = false → X) (h1 : b = true → Y) : (¬ nb_b b = 1 → X) ∧ (nb_b b = 1 → Y) := by
  cases b with
  | false => exact ⟨fun _ => h0 rfl, fun q => absurd q (by decide)⟩
  | true => exact ⟨fun q => absurd rfl q, fun _ => h1 rfl⟩
theorem MTl_fr {S : Nat → Prop} {h h' : gk_H} {T : gT} (f : fr S h h') (hS : ∀ k, 117 ≤ k → k ≤ 130 → ¬ S k) (h112 : ¬ S 112) (c : MTl h T) : MTl h' T := MTl_eq (fun k h1 h2 => (f k (hS k h1 h2)).2.1) (by rw [(f 112 h112).1]) (by rw [(f 112 h112).1]) (by rw [(f 112 h112).1]) c
theorem MTl_B {h h' : gk_H} {T : gT} {B : Nat → Int32} (f : fr (fun k => k = 113 ∨ k = 117) h h') (hB : ∀ k, k < 600 → h'.2.1 117 k = B k) (c : MTl h T) : MTl h' (tB T B) := by
  unfold MTl at *
  rw [(f 112 (by omega)).1, (f 128 (by omega)).2.1, (f 129 (by omega)).2.1, (f 130 (by omega)).2.1, (f 120 (by omega)).2.1, (f 121 (by omega)).2.1, (f 122 (by omega)).2.1, (f 123 (by omega)).2.1, (f 124 (by omega)).2.1, (f 125 (by omega)).2.1, (f 126 (by omega)).2.1]
  exact ⟨c.1, c.2.1, c.2.2.1, c.2.2.2.1, c.2.2.2.2.1, hB⟩
theorem MS_fr {S : Nat → Prop} {n : Nat} {th : Bool} {h h' : gk_H} {s : gS} (f : fr S h h') (hS : ∀ k, 112 ≤ k → k ≤ 130 → ¬ S k) (m : MS n th h s) : MS n th h' s := ⟨MWr_fr f (hS 113 (by decide) (by decide)) (hS 116 (by decide) (by decide)) m.1, MTl_fr f (fun k h1 h2 => hS k (by omega) h2) (hS 112 (by decide) (by decide)) m.2.1, by rw [(f 112 (hS 112 (by decide) (by decide))).1]; exact m.2.2⟩
theorem MS_w {n : Nat} {th : Bool} {h h' : gk_H} {s : gS} {w : gk_WV} (f : fr (fun k => k = 113) h h') (m : MS n th h s) (mw : MWr h' w) : MS n th h' (w, s.2) := ⟨mw, MTl_fr f (fun k h1 h2 q => by omega) (by omega) m.2.1, by rw [(f 112 (by omega)).1]; exact m.2.2⟩
theorem S113 : ∀ k, k = 113 → SM k := fun k q => Or.inl q
theorem SAS : ∀ k, S_as k → SM k := fun k q => by unfold S_as at q; unfold SM; omega
section DM
variable {E : gk_E} {d : Nat} {h : gk_H} {s : gS} {n : Nat} {th : Bool}
theorem s_mo_notes {K : gk_H → Prop} {a b c : Int32} (m : MS n th h s) (g : GW n s.1) (k : ∀ h', MS n th h' (noteP th a b c s) → fr SM h h' → K h') : gk_cv E (d + 1) jmo_notes [.ref 112, .int a, .int b, .int c] h K := by
  obtain ⟨j, hj, e⟩ := GW_wr g
  refine gk_cv_mk (x_mo_notes ?_)
  unfold w_mo_notes
  rw [m.2.2.1]
  cases th with
  | true =>
    refine zF (by decide) (k h ?_ fr_rf)
    have : noteP true a b c s = s := if_pos (Or.inl rfl)
    rw [this]; exact m
  | false =>
    refine zT rfl ⟨vpi (by decide), ?_⟩
    have c2 : (2 : Int32).toNatClampNeg = 2 := by decide
    have c0 : (0 : Int32).toNatClampNeg = 0 := by decide
    rw [c2, c0, (MW_0 m.1).2.2.1, (MW_0 m.1).1, e]
    by_cases q : j = 150
    · refine zT (by rw [q]; rfl) (k h ?_ fr_rf)
      have : noteP false a b c s = s := by
        unfold noteP
        rw [if_pos]
        refine Or.inr ?_
        rw [e]
        exact fun z => by have := (nI_ltI (a := j) (b := 150) (by omega) (by decide)).mp z; omega
      rw [this]; exact m
    · refine zF (fun z => q ((nI_eq (b := 150) (by omega) (by decide)).mp z)) ⟨vpi (by decide), ?_⟩
      rw [show (4 : Int32) * nI j = nI (4 * j) from nI_mulN 4 j]
      refine fe ⟨vpi (by decide), vp_in_nI (by omega) (by decide), ?_⟩
      rw [show nI (4 * j) + (1 : Int32) = nI (4 * j + 1) from nI_add _ 1, show nI (4 * j) + (2 : Int32) = nI (4 * j + 2) from nI_add _ 2, show nI (4 * j) + (3 : Int32) = nI (4 * j + 3) from nI_add _ 3, nI_clamp (n := 4 * j) (by omega), nI_clamp (n := 4 * j + 1) (by omega), nI_clamp (n := 4 * j + 2) (by omega), nI_clamp (n := 4 * j + 3) (by omega)]
      refine fe ⟨vp_in_nI (by omega) (by decide), fe ⟨vp_in_nI (by omega) (by decide), fe ⟨vp_in_nI (by omega) (by decide), fe ⟨vpi (by decide), vpi (by decide), fe ?_⟩⟩⟩⟩
      have f4 : fr (fun i => i = 117) h (ha4 h 117 j (s.1.1 5) a b c) := ha4_fr
      have m4 : MWr (ha4 h 117 j (s.1.1 5) a b c) s.1 := MWr_fr f4 (by decide) (by decide) m.1
      have e47 : (ha4 h 117 j (s.1.1 5) a b c).2.1 113 2 = s.1.1 7 := (MW_0 m4).2.2.1
      have nn : noteP false a b c s = (wF s.1 7 (s.1.1 7 + 1), tB s.2 (bk4 s.2.2.2.2.2.2 j (s.1.1 5) a b c)) := by
        unfold noteP
        rw [if_neg, e, nI_clamp (by omega)]
        rintro (z | z)
        · cases z
        · exact z (by rw [e]; exact (nI_ltI (a := j) (b := 150) (by omega) (by decide)).mpr (by omega))
      have F : fr (fun k => k = 113 ∨ k = 117) h (gk_ha (ha4 h 117 j (s.1.1 5) a b c) 113 2 (s.1.1 7 + 1)) := fr_tr (fr_mo f4 (fun k q => Or.inr q)) (fr_ha (Or.inl rfl))
      have kk := k (gk_ha (ha4 h 117 j (s.1.1 5) a b c) 113 2 (s.1.1 7 + 1)) (by
        rw [nn]
        refine ⟨MU_F (by omega) m4 (GW_to (n := n) (by rw [e, nI_1]; exact GW_7 (by omega) g)), MTl_B F (fun i hi => ?_) m.2.1, by rw [(F 112 (by omega)).1]; exact m.2.2⟩
        rw [ha_a, if_neg (by omega), ha4_at]
        exact bk4_congr (m.2.1.2.2.2.2.2 i hi)) (fr_mo F (fun k q => by unfold SM; omega))
      rw [← e47] at kk
      exact kk
theorem s_mo_getsPaid {K : gk_H → Prop} {v : Int32} {w : gk_WV} (m : MWr h w) (g : goodW (earnP v w)) (k : ∀ h', MWr h' (earnP v w) → fr (fun k => k = 113) h h' → K h') : gk_cv E (d + 2) jmo_getsPaid [.ref 112, .int v] h K := by
  have c3 : (3 : Int32).toNatClampNeg = 3 := by decide
  refine gk_cv_mk (x_mo_getsPaid ⟨vpi (by decide), ?_⟩)
  rw [c3, (MW_0 m).2.2.2.1]
  have kk := k (gk_ha h 113 3 (if w.1 3 + v < 99999 then w.1 3 + v else 99999)) (MU_F (by omega) m g) (fr_ha rfl)
  refine gk_ci_mk (x_mo_lesser ⟨fun q => ⟨vpi (by decide), ?_⟩, fun q => ⟨vpi (by decide), ?_⟩⟩)
  · by_cases z : w.1 3 + v < 99999
    · rw [if_pos z] at kk; exact kk
    · have : w.1 3 + v = 99999 := Int32.le_antisymm q (Int32.not_lt.mp z)
      rw [if_neg z] at kk
      rw [this]; exact kk
  · have : ¬ w.1 3 + v < 99999 := fun z => q (Int32.le_of_lt z)
    rw [if_neg this] at kk
    exact kk
theorem s_mo_isTold {K : Int32 → gk_H → Prop} {a0 a1 a2 : Int32} (hn : n ≤ 10) (e : h.1 112 6 = nI n) (k0 : (¬ ∃ a p c, isD n a0 a1 a2 a p c) → K 0 h) (k1 : ∀ a p c, isD n a0 a1 a2 a p c → K 1 h) : gk_ci E (d + 2) jmo_isTold [.ref 112, .int a0, .int a1, .int a2] h K := by
  refine gk_ci_mk (x_mo_isTold ⟨fun q3 => ?_, fun q3 => ?_⟩)
  · by_cases h5 : ¬ ((0 : Int32) ≤ a0 ∧ a0 ≤ 5)
    · refine s_in0 h5 (yT rfl ⟨Or.inl rfl, k0 ?_⟩)
      rintro ⟨a', p', c', i1, i2, i3, i4⟩
      have := i4.1
      rw [i1] at h5
      exact h5 ⟨(nI_leI (a := 0) (by decide) (by omega)).mpr (Nat.zero_le _), (nI_leI (b := 5) (by omega) (by decide)).mpr (by omega)⟩
    · replace h5 := Classical.not_not.mp h5
      obtain ⟨a, ha, ea⟩ := of05 (N := 5) (by decide) h5
      have na : a ≠ 3 := fun z => q3 (by rw [ea, z]; rfl)
      refine s_in1 h5 (yF (by decide) ?_)
      by_cases hp : ¬ ∃ q, q < n ∧ a1 = nI q
      · refine s_mp0 hn e hp (zT rfl ⟨Or.inl rfl, k0 ?_⟩)
        rintro ⟨a', p', c', i1, i2, i3, i4⟩
        exact hp ⟨p', i4.2.1 (fun z => q3 (by rw [i1, z]; rfl)), i2⟩
      · obtain ⟨p, hp, ep⟩ := Classical.not_not.mp hp
        rw [ep]
        refine s_mp1 hn e hp (zF (by decide) ?_)
        have no : ∀ N, N < 1000 → ¬ ((0 : Int32) ≤ a2 ∧ a2 ≤ nI N) → (a = 2 → N = 5) → (a = 4 → N = 7) → (a = 5 → N = 63) → 2 ≤ a → ¬ ∃ a p c, isD n a0 a1 a2 a p c := by
          rintro N hN hv z2 z4 z5 h2 ⟨a', p', c', i1, i2, i3, i4⟩
          have ea' : a' = a := (nI_eq (by have := i4.1; omega) (by omega)).mp (i1.symm.trans ea)
          rw [i3 (by omega)] at hv
          obtain ⟨j1, j2, j3, j4, j5, j6, j7⟩ := i4
          refine hv ⟨(nI_leI (a := 0) (by decide) (by omega)).mpr (Nat.zero_le _), (nI_leI (by omega) (by omega)).mpr (by omega)⟩
        refine ⟨fun q2 => ⟨fun q4 => ⟨fun q5 => ⟨Or.inr rfl, k1 a p 0 ⟨ea, ep, fun z => ?_, by omega, fun _ => hp, fun z => absurd z na, ?_, fun z => absurd z na, ?_, ?_⟩⟩, fun q5 => ?_⟩, fun q4 => ?_⟩, fun q2 => ?_⟩
        · have y2 : ¬ a = 2 := fun y => q2 (by rw [ea, y]; rfl)
          have y4 : ¬ a = 4 := fun y => q4 (by rw [ea, y]; rfl)
          have y5 : ¬ a = 5 := fun y => q5 (by rw [ea, y]; rfl)
          omega
        · exact fun y => absurd (by rw [ea, y]; rfl) q2
        · exact fun y => absurd (by rw [ea, y]; rfl) q4
        · exact fun y => absurd (by rw [ea, y]; rfl) q5
        · have a5 : a = 5 := (nI_eq (b := 5) (by omega) (by decide)).mp (ea.symm.trans q5)
          by_cases hv : (0 : Int32) ≤ a2 ∧ a2 ≤ 63
          · obtain ⟨c, hc, ec⟩ := of05 (N := 63) (by decide) hv
            exact s_mc1 hv (yF (by decide) ⟨Or.inr rfl, k1 a p c ⟨ea, ep, fun _ => ec, by omega, fun _ => hp, by omega, by omega, by omega, by omega, by omega⟩⟩)
          · exact s_mc0 hv (yT rfl ⟨Or.inl rfl, k0 (no 63 (by decide) hv (by omega) (by omega) (by omega) (by omega))⟩)
        · have a4 : a = 4 := (nI_eq (b := 4) (by omega) (by decide)).mp (ea.symm.trans q4)
          by_cases hv : (0 : Int32) ≤ a2 ∧ a2 ≤ 7
          · obtain ⟨c, hc, ec⟩ := of05 (N := 7) (by decide) hv
            exact s_in1 hv ⟨Or.inr rfl, k1 a p c ⟨ea, ep, fun _ => ec, by omega, fun _ => hp, by omega, by omega, by omega, by omega, by omega⟩⟩
          · exact s_in0 hv ⟨Or.inl rfl, k0 (no 7 (by decide) hv (by omega) (by omega) (by omega) (by omega))⟩
        · have a2' : a = 2 := (nI_eq (b := 2) (by omega) (by decide)).mp (ea.symm.trans q2)
          by_cases hv : (0 : Int32) ≤ a2 ∧ a2 ≤ 5
          · obtain ⟨c, hc, ec⟩ := of05 (N := 5) (by decide) hv
            exact s_in1 hv ⟨Or.inr rfl, k1 a p c ⟨ea, ep, fun _ => ec, by omega, fun _ => hp, by omega, by omega, by omega, by omega, by omega⟩⟩
          · exact s_in0 hv ⟨Or.inl rfl, k0 (no 5 (by decide) hv (by omega) (by omega) (by omega) (by omega))⟩
  · by_cases hr : (0 : Int32) ≤ a1 ∧ a1 ≤ 5
    · obtain ⟨p, hp, ep⟩ := of05 (N := 5) (by decide) hr
      refine s_in1 hr (yF (by decide) ?_)
      by_cases hv : (0 : Int32) ≤ a2 ∧ a2 ≤ 9
      · obtain ⟨c, hc, ec⟩ := of05 (N := 9) (by decide) hv
        exact s_in1 hv (yF (by decide) ⟨Or.inr rfl, k1 3 p c ⟨q3, ep, fun _ => ec, by decide, fun z => absurd rfl z, fun _ => by omega, fun z => absurd z (by decide), fun _ => by omega, fun z => absurd z (by decide), fun z => absurd z (by decide)⟩⟩)
      · refine s_in0 hv (yT rfl ⟨Or.inl rfl, k0 ?_⟩)
        rintro ⟨a', p', c', i1, i2, i3, i4⟩
        have : a' = 3 := (nI_eq (b := 3) (by have := i4.1; omega) (by decide)).mp (i1.symm.trans q3)
        have c6 := i4.2.2.2.2.1 this
        rw [i3 (by omega)] at hv
        exact hv ⟨(nI_leI (a := 0) (by decide) (by omega)).mpr (Nat.zero_le _), (nI_leI (b := 9) (by omega) (by decide)).mpr (by omega)⟩
    · refine s_in0 hr (yT rfl ⟨Or.inl rfl, k0 ?_⟩)
      rintro ⟨a', p', c', i1, i2, i3, i4⟩
      have : a' = 3 := (nI_eq (b := 3) (by have := i4.1; omega) (by decide)).mp (i1.symm.trans q3)
      have c6 := i4.2.2.1 this
      rw [i2] at hr
      exact hr ⟨(nI_leI (a := 0) (by decide) (by omega)).mpr (Nat.zero_le _), (nI_leI (b := 5) (by omega) (by decide)).mpr (by omega)⟩
theorem s_mo_canAct {K : Int32 → gk_H → Prop} {a0 a1 a2 : Int32} {a p c : Nat} (i : isD n a0 a1 a2 a p c) (m : MS n th h s) (g : gd n s) (k : ∀ h', fr S_as h h' → K (nb_b (canB s a p c)) h') : gk_ci E (d + 7) jmo_canAct [.ref 112, .int a0, .int a1, .int a2] h K := by
  obtain ⟨i1, i2, i3, o1, o2, o3, o4, o5, o6, o7⟩ := i
  have hn := g.1.1.1
  have c3 : (3 : Int32).toNatClampNeg = 3 := by decide
  have kc : ∀ b, canB s a p c = b → ∀ h', fr S_as h h' → K (nb_b b) h' := fun b z h' f => by rw [← z]; exact k h' f
  rw [i1, i2]
  refine gk_ci_mk (x_mo_canAct ?_)
  unfold w_mo_canAct
  rw [show (21 : Int32) + nI p = nI (21 + p) from nI_add 21 p, nI_clamp (by omega), c3]
  have vp : ∀ (_ : p < 10), vp_in (nI (21 + p)) 131 := fun _ => vp_in_nI (by omega) (by decide)
  have ha : a = 0 ∨ a = 1 ∨ a = 2 ∨ a = 3 ∨ a = 4 ∨ a = 5 := by omega
  rcases ha with e | e | e | e | e | e
  · have hp := o2 (by omega)
    rw [e] at kc ⊢
    rw [(MW_p m.1 (p := p) (by omega)).2.1]
    refine zT rfl ⟨vp (by omega), bsel2 (fun b => ?_) (fun b => ⟨Or.inl rfl, kc false (by unfold canB; rw [if_pos rfl, b]; rfl) h fr_rf⟩)⟩
    refine (s_mo_tells (by omega) m.1 m.2.1 g.2).1 _ fun h' f => ⟨vpi (by decide), ?_⟩
    rw [(MW_0 (MWr_fr f (by unfold S_as; omega) (by unfold S_as; omega) m.1)).2.2.2.1]
    refine ⟨fun z => ⟨Or.inl rfl, kc false ?_ h' f⟩, fun z => ⟨Or.inr rfl, kc true ?_ h' f⟩⟩
    · unfold canB; rw [if_pos rfl, b, decide_eq_true z]; rfl
    · unfold canB; rw [if_pos rfl, b, decide_eq_false z]; rfl
  · have hp := o2 (by omega)
    rw [e] at kc ⊢
    rw [(MW_p m.1 (p := p) (by omega)).2.1]
    have cb : canB s 1 p c = nb_bit (s.1.1 1) p := by unfold canB; rw [if_neg (by decide), if_pos (by decide)]
    exact zF (by decide) (yT rfl ⟨vp (by omega), bsel1 (fun b => ⟨Or.inl rfl, kc false (cb.trans b) h fr_rf⟩) (fun b => ⟨Or.inr rfl, kc true (cb.trans b) h fr_rf⟩)⟩)
  · have hp := o2 (by omega)
    rw [e] at kc ⊢
    rw [(MW_p m.1 (p := p) (by omega)).2.1]
    have cb : canB s 2 p c = nb_bit (s.1.1 1) p := by unfold canB; rw [if_neg (by decide), if_pos (by decide)]
    exact zF (by decide) (yF (by decide) (zT rfl ⟨vp (by omega), bsel1 (fun b => ⟨Or.inl rfl, kc false (cb.trans b) h fr_rf⟩) (fun b => ⟨Or.inr rfl, kc true (cb.trans b) h fr_rf⟩)⟩))
  · rw [e] at kc ⊢
    exact zF (by decide) (yF (by decide) (zF (by decide) (zF (by decide) ⟨Or.inr rfl, kc true (by unfold canB; rw [if_neg (by decide), if_neg (by decide), if_neg (by decide)]) h fr_rf⟩)))
  · rw [e] at kc ⊢
    exact zF (by decide) (yF (by decide) (zF (by decide) (zF (by decide) ⟨Or.inr rfl, kc true (by unfold canB; rw [if_neg (by decide), if_neg (by decide), if_neg (by decide)]) h fr_rf⟩)))
  · have hp := o2 (by omega)
    have hc := o7 e
    rw [i3 (by omega)]
    rw [e] at kc ⊢
    rw [(MW_p m.1 (p := p) (by omega)).2.1]
    have cb : canB s 5 p c = (nb_bit (s.1.1 1) p && nb_bitL (s.1.2.1 p) c) := by unfold canB; rw [if_neg (by decide), if_neg (by decide), if_pos rfl]
    exact zF (by decide) (yF (by decide) (zF (by decide) (zT rfl ⟨vp (by omega), bsel1 (fun b => ⟨Or.inl rfl, kc false (by rw [cb, b]; rfl) h fr_rf⟩) (fun b => s_mo_dryCell (by omega) hc (MW_p m.1 (p := p) (by omega)).2.2.2.2 (bsel (fun y => ⟨Or.inl rfl, kc false (by rw [cb, b, y]; rfl) h fr_rf⟩) (fun y => ⟨Or.inr rfl, kc true (by rw [cb, b, y]; rfl) h fr_rf⟩)))⟩)))
end DM
