/-! deeds, the class -/
def CS (a : Nat) (h : gk_H) (s : gS) : Prop := wv h a = s.1 ∧ CT h 7 19 s.2
def SK1 (k : Nat) : Prop := (1 ≤ k ∧ k ≤ 6) ∨ k = 19 ∨ k = 77 ∨ k = 78 ∨ k = 80
def SK81 (k : Nat) : Prop := (81 ≤ k ∧ k ≤ 86) ∨ k = 77 ∨ k = 78 ∨ k = 88
theorem CT_fr {S : Nat → Prop} {h h' : gk_H} {T : gT} (f : fr S h h') (hS : ∀ k, 8 ≤ k → k ≤ 19 → ¬ S k) (c : CT h 7 19 T) : CT h' 7 19 T := CT_eq (fun i h1 h2 => f _ (hS _ (by omega) (by omega))) (f 19 (hS _ (by omega) (by omega))).2.1 c
theorem CS_fr {S : Nat → Prop} {a : Nat} {h h' : gk_H} {s : gS} (f : fr S h h') (hS : ∀ k, 8 ≤ k → k ≤ 19 → ¬ S k) (hA : ∀ i, i ≤ 5 → ¬ S (a + i)) (c : CS a h s) : CS a h' s := ⟨by rw [wv_fr f hA]; exact c.1, CT_fr f hS c.2⟩
theorem CT_B {h h' : gk_H} {T : gT} {B : Nat → Int32} (e : ∀ i, 1 ≤ i → i ≤ 11 → eqc h h' (7 + i)) (hB : ∀ k, k < 600 → h'.2.1 19 k = B k) (c : CT h 7 19 T) : CT h' 7 19 (tB T B) := by
  unfold CT at *
  rw [(e 1 (by decide) (by decide)).1, (e 2 (by decide) (by decide)).2.1, (e 3 (by decide) (by decide)).2.1, (e 4 (by decide) (by decide)).2.1, (e 5 (by decide) (by decide)).2.1, (e 6 (by decide) (by decide)).2.1, (e 7 (by decide) (by decide)).2.1, (e 8 (by decide) (by decide)).2.1, (e 9 (by decide) (by decide)).2.1, (e 10 (by decide) (by decide)).2.1, (e 11 (by decide) (by decide)).2.1]
  exact ⟨c.1, c.2.1, c.2.2.1, c.2.2.2.1, c.2.2.2.2.1, hB⟩
theorem GW_wr {n : Nat} {w : gk_WV} (g : GW n w) : ∃ k, k ≤ 150 ∧ w.1 7 = nI k := g.2.2.2.2
def ha4 (h : gk_H) (q k : Nat) (a b c d : Int32) : gk_H := gk_ha (gk_ha (gk_ha (gk_ha h q (4 * k) a) q (4 * k + 1) b) q (4 * k + 2) c) q (4 * k + 3) d
theorem ha4_fr {h : gk_H} {q k : Nat} {a b c d : Int32} : fr (fun i => i = q) h (ha4 h q k a b c d) := fr_tr (fr_tr (fr_tr (fr_ha rfl) (fr_ha rfl)) (fr_ha rfl)) (fr_ha rfl)
theorem ha4_at {h : gk_H} {q k i : Nat} {a b c d : Int32} : (ha4 h q k a b c d).2.1 q i = bk4 (h.2.1 q) k a b c d i := by
  unfold ha4 bk4
  rw [ha_a, ha_a, ha_a, ha_a]
  simp only [true_and]
theorem bk4_congr {B B' : Nat → Int32} {k i : Nat} {a b c d : Int32} (e : B i = B' i) : bk4 B k a b c d i = bk4 B' k a b c d i := by
  unfold bk4
  rw [e]
theorem doP_0 {th : Bool} {p c : Nat} {s : gS} : doP th 0 p c s = buyP th p s := if_pos rfl
theorem doP_1 {th : Bool} {p c : Nat} {s : gS} : doP th 1 p c s = sellP th p s := by unfold doP; rw [if_neg (by decide), if_pos rfl]
theorem doP_2 {th : Bool} {p c : Nat} {s : gS} : doP th 2 p c s = hangP th p c s := by unfold doP; rw [if_neg (by decide), if_neg (by decide), if_pos rfl]
theorem doP_3 {th : Bool} {p c : Nat} {s : gS} : doP th 3 p c s = lightP p c s := by unfold doP; rw [if_neg (by decide), if_neg (by decide), if_neg (by decide), if_pos rfl]
theorem doP_4 {th : Bool} {p c : Nat} {s : gS} : doP th 4 p c s = hoseP th p c s := by unfold doP; rw [if_neg (by decide), if_neg (by decide), if_neg (by decide), if_neg (by decide), if_pos rfl]
theorem doP_5 {th : Bool} {p c : Nat} {s : gS} : doP th 5 p c s = wipeP p c s := by unfold doP; rw [if_neg (by decide), if_neg (by decide), if_neg (by decide), if_neg (by decide), if_neg (by decide)]
theorem s_ke_note_79 {E : gk_E} {d : Nat} {h : gk_H} {K : gk_H → Prop} {s : gS} {a b c : Int32} (cs : CS 1 h s) (hk : ∃ k, k ≤ 150 ∧ s.1.1 7 = nI k) (k : ∀ h', CS 1 h' (noteP false a b c s) → fr SK1 h h' → K h') : gk_cv E (d + 1) jke_note [.ref 79, .int a, .int b, .int c] h K := by
  obtain ⟨j, hj, e⟩ := hk
  have e7 : h.1 1 7 = nI j := (wv_f cs.1 (by decide)).trans e
  have e5 : h.1 1 5 = s.1.1 5 := wv_f cs.1 (by decide)
  refine gk_cv_mk (x_ke_note_79 (pk_lt j 150 (fun q => ?_) (fun q => ?_) (hx := e7)))
  · rw [e7, show nI j * (4 : Int32) = nI (4 * j) by rw [Nat.mul_comm]; exact nI_mulN j 4]
    refine fe ⟨vp_in_nI (by omega) (by decide), ?_⟩
    rw [show nI (4 * j) + (1 : Int32) = nI (4 * j + 1) from nI_add _ 1, show nI (4 * j) + (2 : Int32) = nI (4 * j + 2) from nI_add _ 2, show nI (4 * j) + (3 : Int32) = nI (4 * j + 3) from nI_add _ 3, nI_clamp (n := 4 * j) (by omega), nI_clamp (n := 4 * j + 1) (by omega), nI_clamp (n := 4 * j + 2) (by omega), nI_clamp (n := 4 * j + 3) (by omega), e5]
    refine fe ⟨vp_in_nI (by omega) (by decide), fe ⟨vp_in_nI (by omega) (by decide), fe ⟨vp_in_nI (by omega) (by decide), fe (fe ?_)⟩⟩⟩
    have f4 : fr (fun i => i = 19) h (ha4 h 19 j (s.1.1 5) a b c) := ha4_fr
    have w4 : wv (ha4 h 19 j (s.1.1 5) a b c) 1 = s.1 := by rw [wv_fr f4 (fun i hi => by omega)]; exact cs.1
    have e47 : (ha4 h 19 j (s.1.1 5) a b c).1 1 7 = s.1.1 7 := wv_f w4 (by decide)
    have nn : noteP false a b c s = (wF s.1 7 (s.1.1 7 + 1), tB s.2 (bk4 s.2.2.2.2.2.2 j (s.1.1 5) a b c)) := by
      unfold noteP
      rw [if_neg, e, nI_clamp (by omega)]
      rintro (z | z)
      · cases z
      · exact z (by rw [e]; exact (nI_ltI (by omega) (by decide)).mpr q)
    have kk := k (gk_hf (ha4 h 19 j (s.1.1 5) a b c) 1 7 (s.1.1 7 + 1)) (by
      rw [nn]
      refine ⟨wv_F (by decide) w4, CT_B (h := h) (fun i h1 h2 => ?_) (fun i hi => ?_) cs.2⟩
      · exact (fr_tr (S := fun k => k = 19 ∨ k = 1) (fr_mo f4 (fun k q => Or.inl q)) (fr_hf (Or.inr rfl))) _ (by omega)
      · show (ha4 h 19 j (s.1.1 5) a b c).2.1 19 i = _
        rw [ha4_at]
        exact bk4_congr (cs.2.2.2.2.2.2 i hi)) (fr_tr (fr_mo f4 (fun k q => by unfold SK1; omega)) (fr_hf (by unfold SK1; omega)))
    rw [← e47] at kk
    exact kk
  · refine k h ?_ fr_rf
    have : noteP false a b c s = s := by
      unfold noteP
      rw [if_pos]
      refine Or.inr ?_
      rw [e]
      exact fun z => by have := (nI_ltI (a := j) (b := 150) (by omega) (by decide)).mp z; omega
    rw [this]
    exact cs
theorem s_ke_note_87 {E : gk_E} {d : Nat} {h : gk_H} {K : gk_H → Prop} {s : gS} {a b c : Int32} (cs : CS 81 h s) (hk : ∃ k, k ≤ 150 ∧ s.1.1 7 = nI k) (k : ∀ h', CS 81 h' (noteP true a b c s) → fr SK81 h h' → K h') : gk_cv E (d + 1) jke_note [.ref 87, .int a, .int b, .int c] h K := by
  refine gk_cv_mk (x_ke_note_87 (k h ?_ fr_rf))
  have : noteP true a b c s = s := if_pos (Or.inl rfl)
  rw [this]
  exact cs
theorem s_wo_has_81 {E : gk_E} {d n : Nat} {h : gk_H} {K : Int32 → gk_H → Prop} {p : Int32} (hn : n ≤ 10) (e : h.1 81 0 = nI n) (k0 : (¬ ∃ q, q < n ∧ p = nI q) → K 0 h) (k1 : ∀ q, q < n → p = nI q → K 1 h) : gk_ci E (d + 1) jwo_has [.ref 81, .int p] h K := by
  refine gk_ci_mk (x_wo_has_81 ?_)
  unfold w_wo_has_81
  rw [e]
  have hne : p < 0 → ¬ ∃ q, q < n ∧ p = nI q := fun c ⟨q, hq, eq⟩ => by rw [eq] at c; exact nI_pos (by omega) c
  refine ⟨fun c => ⟨Or.inl rfl, k0 (hne c)⟩, fun c => ?_⟩
  obtain ⟨j, hj, ej⟩ := nI_of c
  rw [ej]
  refine ⟨fun c2 => ⟨Or.inl rfl, k0 ?_⟩, fun c2 => ⟨Or.inr rfl, ?_⟩⟩
  · intro ⟨q, hq, eq⟩
    have e3 := (nI_eq hj (by omega)).mp (ej.symm.trans eq)
    have := (nI_leI (by omega) hj).mp c2
    omega
  · have : ¬ n ≤ j := fun q => c2 ((nI_leI (by omega) hj).mpr q)
    exact k1 j (by omega) ej
theorem s_wo_isOwned_81 {E : gk_E} {d : Nat} {h : gk_H} {K : Int32 → gk_H → Prop} {p : Nat} (hp : p < 32) (hk : K (nb_b (nb_bit (h.1 81 1) p)) h) : gk_ci E (d + 1) jwo_isOwned [.ref 81, .int (nI p)] h K := by
  refine gk_ci_mk (x_wo_isOwned_81 ?_)
  unfold w_wo_isOwned_81
  rw [nb_has0 _ hp]
  refine ⟨fun q => ⟨Or.inl rfl, ?_⟩, fun q => ⟨Or.inr rfl, ?_⟩⟩
  · rw [q] at hk; exact hk
  · rw [Bool.not_eq_false] at q; rw [q] at hk; exact hk
section K1
variable {E : gk_E} {d : Nat} {h : gk_H} {s : gS} {n : Nat}
theorem s_ke_canDo_79 {K : Int32 → gk_H → Prop} {a0 a1 a2 : Int32} (cs : CS 1 h s) (g : gd n s) (k0 : (¬ ∃ a p c, isD n a0 a1 a2 a p c) → K 0 h) (k1 : ∀ a p c, isD n a0 a1 a2 a p c → ∀ h', fr S_teA h h' → K (nb_b (canB s a p c)) h') : gk_ci E (d + 5) jke_canDo [.ref 79, .int a0, .int a1, .int a2] h K := by
  have hn := g.1.1.1
  have e : h.1 1 0 = nI n := (wv_f cs.1 (by decide)).trans g.1.1.2
  have e1 : h.1 1 1 = s.1.1 1 := wv_f cs.1 (by decide)
  have e3 : ∀ h', fr S_teA h h' → h'.1 1 3 = s.1.1 3 := fun h' f => by rw [(f 1 (by unfold S_teA; omega)).1]; exact wv_f cs.1 (by decide)
  have kc : ∀ a p c b, isD n a0 a1 a2 a p c → canB s a p c = b → ∀ h', fr S_teA h h' → K (nb_b b) h' := fun a p c b i z h' f => by rw [← z]; exact k1 a p c i h' f
  refine gk_ci_mk (x_ke_canDo_79 ⟨fun q3 => ?_, fun q3 => ?_⟩)
  · by_cases hp : ∃ q, q < n ∧ a1 = nI q
    · obtain ⟨p, hp, ep⟩ := hp
      have vp : vp_in (nI p) 10 := vp_in_nI (by omega) (by decide)
      have ed : h.2.2 2 p = s.1.2.1 p := wv_d (a := 1) cs.1 (by omega)
      rw [ep, nI_clamp (by omega)]
      refine s_wo_has_1 hn e (fun q => absurd ⟨p, hp, rfl⟩ q) (fun _ _ _ => zF (by decide) ⟨fun q => ?_, fun q0 => ⟨fun q => ?_, fun q1 => ⟨fun q => ?_, fun q2 => ⟨fun q => absurd q q3, fun _ => ⟨fun q => ?_, fun q4 => ⟨fun q => ?_, fun q5 => ⟨Or.inl rfl, k0 ?_⟩⟩⟩⟩⟩⟩⟩)
      · have i : isD n a0 a1 a2 0 p 0 := ⟨q, ep, fun z => absurd z (by decide), by decide, fun _ => hp, fun z => absurd z (by decide), fun z => absurd z (by decide), fun z => absurd z (by decide), fun z => absurd z (by decide), fun z => absurd z (by decide)⟩
        refine s_wo_isOwned_1 (by omega) ?_
        rw [e1]
        refine bsel2 (fun b => ?_) (fun b => ⟨Or.inl rfl, kc 0 p 0 false i (by unfold canB; rw [if_pos rfl, b]; rfl) h fr_rf⟩)
        refine (s_te_tell_1 (by omega) cs.1 (GW_to g.1) cs.2 g.2).1 _ fun h' f => ?_
        rw [e3 h' f]
        refine ⟨fun z => ⟨Or.inl rfl, kc 0 p 0 false i ?_ h' f⟩, fun z => ⟨Or.inr rfl, kc 0 p 0 true i ?_ h' f⟩⟩
        · unfold canB; rw [if_pos rfl, b, decide_eq_true (show s.1.1 3 < wor s.1 s.2 p from z)]; rfl
        · unfold canB; rw [if_pos rfl, b, decide_eq_false (show ¬ s.1.1 3 < wor s.1 s.2 p from z)]; rfl
      · have i : isD n a0 a1 a2 1 p 0 := ⟨q, ep, fun z => absurd z (by decide), by decide, fun _ => hp, fun z => absurd z (by decide), fun z => absurd z (by decide), fun z => absurd z (by decide), fun z => absurd z (by decide), fun z => absurd z (by decide)⟩
        refine s_wo_isOwned_1 (by omega) ⟨nb_b01 _, ?_⟩
        rw [e1]
        exact kc 1 p 0 _ i (by unfold canB; rw [if_neg (by decide), if_pos (by decide)]) h fr_rf
      · refine s_wo_isOwned_1 (by omega) ?_
        rw [e1]
        by_cases hv : (0 : Int32) ≤ a2 ∧ a2 ≤ 5
        · obtain ⟨c, hc, ec⟩ := of05 (N := 5) (by decide) hv
          have i : isD n a0 a1 a2 2 p c := ⟨q, ep, fun _ => ec, by decide, fun _ => hp, fun z => absurd z (by decide), fun _ => by omega, fun z => absurd z (by decide), fun z => absurd z (by decide), fun z => absurd z (by decide)⟩
          have cb : canB s 2 p c = nb_bit (s.1.1 1) p := by unfold canB; rw [if_neg (by decide), if_pos (by decide)]
          exact bsel (fun b => ⟨Or.inl rfl, kc 2 p c false i (cb.trans b) h fr_rf⟩) (fun b => s_rm1 hv (yF (by decide) ⟨Or.inr rfl, kc 2 p c true i (cb.trans b) h fr_rf⟩))
        · have no : ¬ ∃ a p c, isD n a0 a1 a2 a p c := by
            rintro ⟨a', p', c', i1, i2, i3, i4⟩
            have : a' = 2 := (nI_eq (b := 2) (by have := i4.1; omega) (by decide)).mp (i1.symm.trans q)
            have c6 := i4.2.2.2.1 this
            rw [i3 (by omega)] at hv
            exact hv ⟨(nI_leI (a := 0) (by decide) (by omega)).mpr (Nat.zero_le _), (nI_leI (b := 5) (by omega) (by decide)).mpr (by omega)⟩
          exact bsel (fun b => ⟨Or.inl rfl, k0 no⟩) (fun b => s_rm0 hv (yT rfl ⟨Or.inl rfl, k0 no⟩))
      · by_cases hv : (0 : Int32) ≤ a2 ∧ a2 ≤ 7
        · obtain ⟨c, hc, ec⟩ := of05 (N := 7) (by decide) hv
          have i : isD n a0 a1 a2 4 p c := ⟨q, ep, fun _ => ec, by decide, fun _ => hp, fun z => absurd z (by decide), fun z => absurd z (by decide), fun z => absurd z (by decide), fun _ => by omega, fun z => absurd z (by decide)⟩
          exact s_wi1 hv ⟨Or.inr rfl, kc 4 p c true i (by unfold canB; rw [if_neg (by decide), if_neg (by decide), if_neg (by decide)]) h fr_rf⟩
        · refine s_wi0 hv ⟨Or.inl rfl, k0 ?_⟩
          rintro ⟨a', p', c', i1, i2, i3, i4⟩
          have : a' = 4 := (nI_eq (b := 4) (by have := i4.1; omega) (by decide)).mp (i1.symm.trans q)
          have c6 := i4.2.2.2.2.2.1 this
          rw [i3 (by omega)] at hv
          exact hv ⟨(nI_leI (a := 0) (by decide) (by omega)).mpr (Nat.zero_le _), (nI_leI (b := 7) (by omega) (by decide)).mpr (by omega)⟩
      · refine s_wo_isOwned_1 (by omega) ?_
        rw [e1]
        by_cases hv : (0 : Int32) ≤ a2 ∧ a2 ≤ 63
        · obtain ⟨c, hc, ec⟩ := of05 (N := 63) (by decide) hv
          have i : isD n a0 a1 a2 5 p c := ⟨q, ep, fun _ => ec, by decide, fun _ => hp, fun z => absurd z (by decide), fun z => absurd z (by decide), fun z => absurd z (by decide), fun z => absurd z (by decide), fun _ => by omega⟩
          have cb : canB s 5 p c = (nb_bit (s.1.1 1) p && nb_bitL (s.1.2.1 p) c) := by unfold canB; rw [if_neg (by decide), if_neg (by decide), if_pos rfl]
          refine bsel (fun b => ⟨Or.inl rfl, kc 5 p c false i (by rw [cb, b]; rfl) h fr_rf⟩) (fun b => s_ce1 hv (yF (by decide) ⟨vp, ?_⟩))
          rw [ec, ed]
          exact s_gr_isDry (by omega) (bsel (fun y => ⟨Or.inl rfl, kc 5 p c false i (by rw [cb, b, y]; rfl) h fr_rf⟩) (fun y => ⟨Or.inr rfl, kc 5 p c true i (by rw [cb, b, y]; rfl) h fr_rf⟩))
        · have no : ¬ ∃ a p c, isD n a0 a1 a2 a p c := by
            rintro ⟨a', p', c', i1, i2, i3, i4⟩
            have : a' = 5 := (nI_eq (b := 5) (by have := i4.1; omega) (by decide)).mp (i1.symm.trans q)
            have c6 := i4.2.2.2.2.2.2 this
            rw [i3 (by omega)] at hv
            exact hv ⟨(nI_leI (a := 0) (by decide) (by omega)).mpr (Nat.zero_le _), (nI_leI (b := 63) (by omega) (by decide)).mpr (by omega)⟩
          exact bsel (fun b => ⟨Or.inl rfl, k0 no⟩) (fun b => s_ce0 hv (yT rfl ⟨Or.inl rfl, k0 no⟩))
      · rintro ⟨a', p', c', i1, i2, i3, i4⟩
        have h5 := i4.1
        have ne : ∀ j, j ≤ 5 → ¬ a0 = nI j → ¬ a' = j := fun j _ y z => y (by rw [i1, z])
        have := ne 0 (by decide) q0
        have := ne 1 (by decide) q1
        have := ne 2 (by decide) q2
        have := ne 3 (by decide) q3
        have := ne 4 (by decide) q4
        have := ne 5 (by decide) q5
        omega
    · refine s_wo_has_1 hn e (fun _ => zT rfl ⟨Or.inl rfl, k0 ?_⟩) (fun p q1 q2 => absurd ⟨p, q1, q2⟩ hp)
      rintro ⟨a', p', c', i1, i2, i3, i4⟩
      exact hp ⟨p', i4.2.1 (fun z => q3 (by rw [i1, z]; rfl)), i2⟩
  · by_cases hr : (0 : Int32) ≤ a1 ∧ a1 ≤ 5
    · obtain ⟨p, hp, ep⟩ := of05 (N := 5) (by decide) hr
      refine s_rm1 hr (yF (by decide) ?_)
      by_cases hv : (0 : Int32) ≤ a2 ∧ a2 ≤ 9
      · obtain ⟨c, hc, ec⟩ := of05 (N := 9) (by decide) hv
        have i : isD n a0 a1 a2 3 p c := ⟨q3, ep, fun _ => ec, by decide, fun z => absurd rfl z, fun _ => by omega, fun z => absurd z (by decide), fun _ => by omega, fun z => absurd z (by decide), fun z => absurd z (by decide)⟩
        exact s_wi1 hv (yF (by decide) ⟨Or.inr rfl, kc 3 p c true i (by unfold canB; rw [if_neg (by decide), if_neg (by decide), if_neg (by decide)]) h fr_rf⟩)
      · refine s_wi0 hv (yT rfl ⟨Or.inl rfl, k0 ?_⟩)
        rintro ⟨a', p', c', i1, i2, i3, i4⟩
        have : a' = 3 := (nI_eq (b := 3) (by have := i4.1; omega) (by decide)).mp (i1.symm.trans q3)
        have c6 := i4.2.2.2.2.1 this
        rw [i3 (by omega)] at hv
        exact hv ⟨(nI_leI (a := 0) (by decide) (by omega)).mpr (Nat.zero_le _), (nI_leI (b := 9) (by omega) (by decide)).mpr (by omega)⟩
    · refine s_rm0 hr (yT rfl ⟨Or.inl rfl, k0 ?_⟩)
      rintro ⟨a', p', c', i1, i2, i3, i4⟩
      have : a' = 3 := (nI_eq (b := 3) (by have := i4.1; omega) (by decide)).mp (i1.symm.trans q3)
      have c6 := i4.2.2.1 this
      rw [i2] at hr
      exact hr ⟨(nI_leI (a := 0) (by decide) (by omega)).mpr (Nat.zero_le _), (nI_leI (b := 5) (by omega) (by decide)).mpr (by omega)⟩
theorem s_wo_earn_1 {K : gk_H → Prop} {v : Int32} {w : gk_WV} (e : wv h 1 = w) (k : ∀ h', wv h' 1 = earnP v w → fr (fun k => k = 1) h h' → K h') : gk_cv E (d + 2) jwo_earn [.ref 1, .int v] h K := by
  refine gk_cv_mk (x_wo_earn_1 ⟨by omega, ?_⟩)
  rw [wv_f e (s := 3) (by decide)]
  exact k _ (wv_F (by decide) e) (fr_hf rfl)
theorem s_ke_carryOut_79 {K : gk_H → Prop} {a0 a1 a2 : Int32} {a p c : Nat} (i : isD n a0 a1 a2 a p c) (cs : CS 1 h s) (g : gd n s) (k : ∀ h', CS 1 h' (doP false a p c s) → fr SK1 h h' → K h') : gk_cv E (d + 5) jke_carryOut [.ref 79, .int a0, .int a1, .int a2] h K := by
  obtain ⟨i1, i2, i3, o1, o2, o3, o4, o5, o6, o7⟩ := i
  have hn := g.1.1.1
  have wr := GW_wr g.1
  have te : ∀ k, S_teA k → SK1 k := fun k q => by unfold S_teA at q; unfold SK1; omega
  have aa : ∀ i, i ≤ 5 → SK1 (1 + i) := fun i hi => by unfold SK1; omega
  have ct : ∀ h', fr (fun k => 1 ≤ k ∧ k ≤ 6) h h' → CT h' 7 19 s.2 := fun h' f => CT_fr f (fun k h1 h2 q => by omega) cs.2
  have fa : ∀ h', fr (fun k => 1 ≤ k ∧ k ≤ 6) h h' → fr SK1 h h' := fun h' f => fr_mo f (fun k q => by unfold SK1; omega)
  rw [i1, i2]
  have ha : a = 0 ∨ a = 1 ∨ a = 2 ∨ a = 3 ∨ a = 4 ∨ a = 5 := by omega
  rcases ha with e | e | e | e | e | e
  · rw [e] at k
    have hp := o2 (by omega)
    rw [e]
    refine gk_cv_mk (x_ke_carryOut_79 (yT rfl ((s_te_tell_1 (by omega) cs.1 (GW_to g.1) cs.2 g.2).1 _ fun h1 f1 => ?_)))
    have c1 : CS 1 h1 s := CS_fr f1 (fun k h1 h2 q => by unfold S_teA at q; omega) (fun i hi q => by unfold S_teA at q; omega) cs
    refine gk_cv_mk (x_ke_purchase_79 (fe ⟨vp_in_nI (by omega) (by decide), ?_⟩))
    rw [nI_clamp (by omega), wv_f c1.1 (s := 3) (by decide)]
    refine fe (fe ?_)
    have w1 : wv (gk_hf h1 1 3 (s.1.1 3 - wor s.1 s.2 p)) 1 = wF s.1 3 (s.1.1 3 - wor s.1 s.2 p) := wv_F (by decide) c1.1
    have w2 : wv (gk_ha (gk_hf h1 1 3 (s.1.1 3 - wor s.1 s.2 p)) 5 p (wor s.1 s.2 p)) 1 = wP (wF s.1 3 (s.1.1 3 - wor s.1 s.2 p)) p (wor s.1 s.2 p) := wv_P (a := 1) (by omega) w1
    have e1 : (gk_ha (gk_hf h1 1 3 (s.1.1 3 - wor s.1 s.2 p)) 5 p (wor s.1 s.2 p)).1 1 1 = s.1.1 1 := wv_f w2 (by decide)
    have w3 : wv (gk_hf (gk_ha (gk_hf h1 1 3 (s.1.1 3 - wor s.1 s.2 p)) 5 p (wor s.1 s.2 p)) 1 1 (s.1.1 1 ||| ((1 : Int32) <<< (nI p &&& 31)))) 1 = wF (wP (wF s.1 3 (s.1.1 3 - wor s.1 s.2 p)) p (wor s.1 s.2 p)) 1 (s.1.1 1 ||| ((1 : Int32) <<< (nI p &&& 31))) := wv_F (by decide) w2
    have F3 : fr (fun k => 1 ≤ k ∧ k ≤ 6) h1 (gk_hf (gk_ha (gk_hf h1 1 3 (s.1.1 3 - wor s.1 s.2 p)) 5 p (wor s.1 s.2 p)) 1 1 (s.1.1 1 ||| ((1 : Int32) <<< (nI p &&& 31)))) := fr_tr (fr_tr (fr_hf (by omega)) (fr_ha (by omega))) (fr_hf (by omega))
    have goal := s_ke_note_79 (E := E) (d := d + 2) (a := 0) (b := nI p) (c := wor s.1 s.2 p) (K := fun h' => gk_qv K none h') (s := (wF (wP (wF s.1 3 (s.1.1 3 - wor s.1 s.2 p)) p (wor s.1 s.2 p)) 1 (s.1.1 1 ||| ((1 : Int32) <<< (nI p &&& 31))), s.2)) ⟨w3, CT_fr F3 (fun k h1 h2 q => by omega) c1.2⟩ wr (fun h' cs' f' => k h' (by rw [doP_0]; exact cs') (fr_tr (fr_mo f1 te) (fr_tr (fr_mo F3 (fun k q => by unfold SK1; omega)) f')))
    rw [← e1] at goal
    exact goal
  · rw [e] at k
    have hp := o2 (by omega)
    rw [e]
    refine gk_cv_mk (x_ke_carryOut_79 (yF (by decide) (yT rfl ((s_te_tell_1 (by omega) cs.1 (GW_to g.1) cs.2 g.2).1 _ fun h1 f1 => ?_))))
    have c1 : CS 1 h1 s := CS_fr f1 (fun k h1 h2 q => by unfold S_teA at q; omega) (fun i hi q => by unfold S_teA at q; omega) cs
    refine gk_cv_mk (x_ke_partWith_79 (s_wo_earn_1 c1.1 fun h2 w2 f2 => ⟨vp_in_nI (by omega) (by decide), ?_⟩))
    rw [nI_clamp (by omega)]
    refine fe ⟨vp_in_nI (by omega) (by decide), fe (fe ?_)⟩
    have w3 : wv (gk_ha h2 5 p 0) 1 = wP (earnP (wor s.1 s.2 p) s.1) p 0 := wv_P (a := 1) (by omega) w2
    have w4 : wv (gk_ha (gk_ha h2 5 p 0) 4 p (-1)) 1 = wH (wP (earnP (wor s.1 s.2 p) s.1) p 0) p (-1) := wv_H (a := 1) (by omega) w3
    have e1 : (gk_ha (gk_ha h2 5 p 0) 4 p (-1)).1 1 1 = s.1.1 1 := wv_f w4 (by decide)
    have w5 : wv (gk_hf (gk_ha (gk_ha h2 5 p 0) 4 p (-1)) 1 1 (s.1.1 1 &&& (((1 : Int32) <<< (nI p &&& 31)) ^^^ (-1 : Int32)))) 1 = wF (wH (wP (earnP (wor s.1 s.2 p) s.1) p 0) p (-1)) 1 (s.1.1 1 &&& (((1 : Int32) <<< (nI p &&& 31)) ^^^ (-1 : Int32))) := wv_F (by decide) w4
    have F3 : fr (fun k => 1 ≤ k ∧ k ≤ 6) h1 (gk_hf (gk_ha (gk_ha h2 5 p 0) 4 p (-1)) 1 1 (s.1.1 1 &&& (((1 : Int32) <<< (nI p &&& 31)) ^^^ (-1 : Int32)))) := fr_tr (fr_tr (fr_tr (fr_mo f2 (fun k q => by omega)) (fr_ha (by omega))) (fr_ha (by omega))) (fr_hf (by omega))
    have goal := s_ke_note_79 (E := E) (d := d + 2) (a := 1) (b := nI p) (c := wor s.1 s.2 p) (K := fun h' => gk_qv K none h') (s := (wF (wH (wP (earnP (wor s.1 s.2 p) s.1) p 0) p (-1)) 1 (s.1.1 1 &&& (((1 : Int32) <<< (nI p &&& 31)) ^^^ (-1 : Int32))), s.2)) ⟨w5, CT_fr F3 (fun k h1 h2 q => by omega) c1.2⟩ wr (fun h' cs' f' => k h' (by rw [doP_1]; exact cs') (fr_tr (fr_mo f1 te) (fr_tr (fr_mo F3 (fun k q => by unfold SK1; omega)) f')))
    rw [← e1] at goal
    exact goal
  · rw [e] at k
    have hp := o2 (by omega)
    rw [e, i3 (by omega)]
    refine gk_cv_mk (x_ke_carryOut_79 (yF (by decide) (yF (by decide) (yT rfl ⟨vp_in_nI (by omega) (by decide), ?_⟩))))
    rw [nI_clamp (by omega)]
    refine fe ?_
    have F3 : fr (fun k => 1 ≤ k ∧ k ≤ 6) h (gk_ha h 4 p (nI c)) := fr_ha (by omega)
    exact s_ke_note_79 (s := (wH s.1 p (nI c), s.2)) ⟨wv_H (a := 1) (by omega) cs.1, ct _ F3⟩ wr (fun h' cs' f' => k h' (by rw [doP_2]; exact cs') (fr_tr (fa _ F3) f'))
  · rw [e] at k
    have hp := o3 e
    rw [e, i3 (by omega)]
    refine gk_cv_mk (x_ke_carryOut_79 (yF (by decide) (yF (by decide) (yF (by decide) (yT rfl ⟨vp_in_nI (by omega) (by decide), ?_⟩)))))
    rw [nI_clamp (by omega)]
    refine fe ?_
    have F3 : fr (fun k => 1 ≤ k ∧ k ≤ 6) h (gk_ha h 6 p (nI c)) := fr_ha (by omega)
    exact k _ (by rw [doP_3]; exact ⟨wv_L (a := 1) (by omega) cs.1, ct _ F3⟩) (fa _ F3)
  · rw [e] at k
    have hp := o2 (by omega)
    have hc := o6 e
    rw [e, i3 (by omega)]
    refine gk_cv_mk (x_ke_carryOut_79 (yF (by decide) (yF (by decide) (yF (by decide) (yF (by decide) (yT rfl ?_))))))
    rw [nI_clamp (by omega), wv_f cs.1 (s := 2) (by decide)]
    refine fe ⟨vp_in_nI (by omega) (by decide), ?_⟩
    have w1 : wv (gk_hf h 1 2 (s.1.1 2 ||| ((1 : Int32) <<< (nI p &&& 31)))) 1 = wF s.1 2 (s.1.1 2 ||| ((1 : Int32) <<< (nI p &&& 31))) := wv_F (by decide) cs.1
    have ed : (gk_hf h 1 2 (s.1.1 2 ||| ((1 : Int32) <<< (nI p &&& 31)))).2.2 2 p = s.1.2.1 p := wv_d (a := 1) w1 (by omega)
    rw [ed]
    refine gk_cl_mk (x_gr_withRow ⟨vp_in_nI (by omega) (by decide), fe ?_⟩)
    have F3 : fr (fun k => 1 ≤ k ∧ k ≤ 6) h (gk_hl (gk_hf h 1 2 (s.1.1 2 ||| ((1 : Int32) <<< (nI p &&& 31)))) 2 p (wrow (s.1.2.1 p) (nI c) 0)) := fr_tr (fr_hf (by omega)) (fr_hl (by omega))
    exact s_ke_note_79 (d := d + 3) (a := 3) (b := nI p) (c := nI c) (K := fun h' => gk_qv K none h') (s := (wD (wF s.1 2 (s.1.1 2 ||| ((1 : Int32) <<< (nI p &&& 31)))) p (wrow (s.1.2.1 p) (nI c) 0), s.2)) ⟨wv_D (a := 1) (by omega) w1, ct _ F3⟩ wr (fun h' cs' f' => k h' (by rw [doP_4]; exact cs') (fr_tr (fa _ F3) f'))
  · rw [e] at k
    have hp := o2 (by omega)
    have hc := o7 e
    rw [e, i3 (by omega)]
    refine gk_cv_mk (x_ke_carryOut_79 (yF (by decide) (yF (by decide) (yF (by decide) (yF (by decide) (yF (by decide) (yT rfl ⟨vp_in_nI (by omega) (by decide), vp_in_nI (by omega) (by decide), ?_⟩)))))))
    have ed : h.2.2 2 p = s.1.2.1 p := wv_d (a := 1) cs.1 (by omega)
    rw [nI_clamp (by omega), ed]
    refine fe ?_
    have F3 : fr (fun k => 1 ≤ k ∧ k ≤ 6) h (gk_hl h 2 p (s.1.2.1 p &&& (((1 : Int64) <<< ((nI c).toInt64 &&& 63)) ^^^ (-1 : Int64)))) := fr_hl (by omega)
    exact k _ (by rw [doP_5]; exact ⟨wv_D (a := 1) (by omega) cs.1, ct _ F3⟩) (fa _ F3)
end K1
section K81
variable {E : gk_E} {d : Nat} {h : gk_H} {s : gS} {n : Nat}
theorem s_ke_canDo_87 {K : Int32 → gk_H → Prop} {a0 a1 a2 : Int32} (cs : CS 81 h s) (g : gd n s) (k0 : (¬ ∃ a p c, isD n a0 a1 a2 a p c) → K 0 h) (k1 : ∀ a p c, isD n a0 a1 a2 a p c → ∀ h', fr S_teA h h' → K (nb_b (canB s a p c)) h') : gk_ci E (d + 5) jke_canDo [.ref 87, .int a0, .int a1, .int a2] h K := by
  have hn := g.1.1.1
  have e : h.1 81 0 = nI n := (wv_f cs.1 (by decide)).trans g.1.1.2
  have e1 : h.1 81 1 = s.1.1 1 := wv_f cs.1 (by decide)
  have e3 : ∀ h', fr S_teA h h' → h'.1 81 3 = s.1.1 3 := fun h' f => by rw [(f 81 (by unfold S_teA; omega)).1]; exact wv_f cs.1 (by decide)
  have kc : ∀ a p c b, isD n a0 a1 a2 a p c → canB s a p c = b → ∀ h', fr S_teA h h' → K (nb_b b) h' := fun a p c b i z h' f => by rw [← z]; exact k1 a p c i h' f
  refine gk_ci_mk (x_ke_canDo_87 ⟨fun q3 => ?_, fun q3 => ?_⟩)
  · by_cases hp : ∃ q, q < n ∧ a1 = nI q
    · obtain ⟨p, hp, ep⟩ := hp
      have vp : vp_in (nI p) 10 := vp_in_nI (by omega) (by decide)
      have ed : h.2.2 82 p = s.1.2.1 p := wv_d (a := 81) cs.1 (by omega)
      rw [ep, nI_clamp (by omega)]
      refine s_wo_has_81 hn e (fun q => absurd ⟨p, hp, rfl⟩ q) (fun _ _ _ => zF (by decide) ⟨fun q => ?_, fun q0 => ⟨fun q => ?_, fun q1 => ⟨fun q => ?_, fun q2 => ⟨fun q => absurd q q3, fun _ => ⟨fun q => ?_, fun q4 => ⟨fun q => ?_, fun q5 => ⟨Or.inl rfl, k0 ?_⟩⟩⟩⟩⟩⟩⟩)
      · have i : isD n a0 a1 a2 0 p 0 := ⟨q, ep, fun z => absurd z (by decide), by decide, fun _ => hp, fun z => absurd z (by decide), fun z => absurd z (by decide), fun z => absurd z (by decide), fun z => absurd z (by decide), fun z => absurd z (by decide)⟩
        refine s_wo_isOwned_81 (by omega) ?_
        rw [e1]
        refine bsel2 (fun b => ?_) (fun b => ⟨Or.inl rfl, kc 0 p 0 false i (by unfold canB; rw [if_pos rfl, b]; rfl) h fr_rf⟩)
        refine (s_te_tell_81 (by omega) cs.1 (GW_to g.1) cs.2 g.2).1 _ fun h' f => ?_
        rw [e3 h' f]
        refine ⟨fun z => ⟨Or.inl rfl, kc 0 p 0 false i ?_ h' f⟩, fun z => ⟨Or.inr rfl, kc 0 p 0 true i ?_ h' f⟩⟩
        · unfold canB; rw [if_pos rfl, b, decide_eq_true (show s.1.1 3 < wor s.1 s.2 p from z)]; rfl
        · unfold canB; rw [if_pos rfl, b, decide_eq_false (show ¬ s.1.1 3 < wor s.1 s.2 p from z)]; rfl
      · have i : isD n a0 a1 a2 1 p 0 := ⟨q, ep, fun z => absurd z (by decide), by decide, fun _ => hp, fun z => absurd z (by decide), fun z => absurd z (by decide), fun z => absurd z (by decide), fun z => absurd z (by decide), fun z => absurd z (by decide)⟩
        refine s_wo_isOwned_81 (by omega) ⟨nb_b01 _, ?_⟩
        rw [e1]
        exact kc 1 p 0 _ i (by unfold canB; rw [if_neg (by decide), if_pos (by decide)]) h fr_rf
      · refine s_wo_isOwned_81 (by omega) ?_
        rw [e1]
        by_cases hv : (0 : Int32) ≤ a2 ∧ a2 ≤ 5
        · obtain ⟨c, hc, ec⟩ := of05 (N := 5) (by decide) hv
          have i : isD n a0 a1 a2 2 p c := ⟨q, ep, fun _ => ec, by decide, fun _ => hp, fun z => absurd z (by decide), fun _ => by omega, fun z => absurd z (by decide), fun z => absurd z (by decide), fun z => absurd z (by decide)⟩
          have cb : canB s 2 p c = nb_bit (s.1.1 1) p := by unfold canB; rw [if_neg (by decide), if_pos (by decide)]
          exact bsel (fun b => ⟨Or.inl rfl, kc 2 p c false i (cb.trans b) h fr_rf⟩) (fun b => s_rm1 hv (yF (by decide) ⟨Or.inr rfl, kc 2 p c true i (cb.trans b) h fr_rf⟩))
        · have no : ¬ ∃ a p c, isD n a0 a1 a2 a p c := by
            rintro ⟨a', p', c', i1, i2, i3, i4⟩
            have : a' = 2 := (nI_eq (b := 2) (by have := i4.1; omega) (by decide)).mp (i1.symm.trans q)
            have c6 := i4.2.2.2.1 this
            rw [i3 (by omega)] at hv
            exact hv ⟨(nI_leI (a := 0) (by decide) (by omega)).mpr (Nat.zero_le _), (nI_leI (b := 5) (by omega) (by decide)).mpr (by omega)⟩
          exact bsel (fun b => ⟨Or.inl rfl, k0 no⟩) (fun b => s_rm0 hv (yT rfl ⟨Or.inl rfl, k0 no⟩))
      · by_cases hv : (0 : Int32) ≤ a2 ∧ a2 ≤ 7
        · obtain ⟨c, hc, ec⟩ := of05 (N := 7) (by decide) hv
          have i : isD n a0 a1 a2 4 p c := ⟨q, ep, fun _ => ec, by decide, fun _ => hp, fun z => absurd z (by decide), fun z => absurd z (by decide), fun z => absurd z (by decide), fun _ => by omega, fun z => absurd z (by decide)⟩
          exact s_wi1 hv ⟨Or.inr rfl, kc 4 p c true i (by unfold canB; rw [if_neg (by decide), if_neg (by decide), if_neg (by decide)]) h fr_rf⟩
        · refine s_wi0 hv ⟨Or.inl rfl, k0 ?_⟩
          rintro ⟨a', p', c', i1, i2, i3, i4⟩
          have : a' = 4 := (nI_eq (b := 4) (by have := i4.1; omega) (by decide)).mp (i1.symm.trans q)
          have c6 := i4.2.2.2.2.2.1 this
          rw [i3 (by omega)] at hv
          exact hv ⟨(nI_leI (a := 0) (by decide) (by omega)).mpr (Nat.zero_le _), (nI_leI (b := 7) (by omega) (by decide)).mpr (by omega)⟩
      · refine s_wo_isOwned_81 (by omega) ?_
        rw [e1]
        by_cases hv : (0 : Int32) ≤ a2 ∧ a2 ≤ 63
        · obtain ⟨c, hc, ec⟩ := of05 (N := 63) (by decide) hv
          have i : isD n a0 a1 a2 5 p c := ⟨q, ep, fun _ => ec, by decide, fun _ => hp, fun z => absurd z (by decide), fun z => absurd z (by decide), fun z => absurd z (by decide), fun z => absurd z (by decide), fun _ => by omega⟩
          have cb : canB s 5 p c = (nb_bit (s.1.1 1) p && nb_bitL (s.1.2.1 p) c) := by unfold canB; rw [if_neg (by decide), if_neg (by decide), if_pos rfl]
          refine bsel (fun b => ⟨Or.inl rfl, kc 5 p c false i (by rw [cb, b]; rfl) h fr_rf⟩) (fun b => s_ce1 hv (yF (by decide) ⟨vp, ?_⟩))
          rw [ec, ed]
          exact s_gr_isDry (by omega) (bsel (fun y => ⟨Or.inl rfl, kc 5 p c false i (by rw [cb, b, y]; rfl) h fr_rf⟩) (fun y => ⟨Or.inr rfl, kc 5 p c true i (by rw [cb, b, y]; rfl) h fr_rf⟩))
        · have no : ¬ ∃ a p c, isD n a0 a1 a2 a p c := by
            rintro ⟨a', p', c', i1, i2, i3, i4⟩
            have : a' = 5 := (nI_eq (b := 5) (by have := i4.1; omega) (by decide)).mp (i1.symm.trans q)
            have c6 := i4.2.2.2.2.2.2 this
            rw [i3 (by omega)] at hv
            exact hv ⟨(nI_leI (a := 0) (by decide) (by omega)).mpr (Nat.zero_le _), (nI_leI (b := 63) (by omega) (by decide)).mpr (by omega)⟩
          exact bsel (fun b => ⟨Or.inl rfl, k0 no⟩) (fun b => s_ce0 hv (yT rfl ⟨Or.inl rfl, k0 no⟩))
      · rintro ⟨a', p', c', i1, i2, i3, i4⟩
        have h5 := i4.1
        have ne : ∀ j, j ≤ 5 → ¬ a0 = nI j → ¬ a' = j := fun j _ y z => y (by rw [i1, z])
        have := ne 0 (by decide) q0
        have := ne 1 (by decide) q1
        have := ne 2 (by decide) q2
        have := ne 3 (by decide) q3
        have := ne 4 (by decide) q4
        have := ne 5 (by decide) q5
        omega
    · refine s_wo_has_81 hn e (fun _ => zT rfl ⟨Or.inl rfl, k0 ?_⟩) (fun p q1 q2 => absurd ⟨p, q1, q2⟩ hp)
      rintro ⟨a', p', c', i1, i2, i3, i4⟩
      exact hp ⟨p', i4.2.1 (fun z => q3 (by rw [i1, z]; rfl)), i2⟩
  · by_cases hr : (0 : Int32) ≤ a1 ∧ a1 ≤ 5
    · obtain ⟨p, hp, ep⟩ := of05 (N := 5) (by decide) hr
      refine s_rm1 hr (yF (by decide) ?_)
      by_cases hv : (0 : Int32) ≤ a2 ∧ a2 ≤ 9
      · obtain ⟨c, hc, ec⟩ := of05 (N := 9) (by decide) hv
        have i : isD n a0 a1 a2 3 p c := ⟨q3, ep, fun _ => ec, by decide, fun z => absurd rfl z, fun _ => by omega, fun z => absurd z (by decide), fun _ => by omega, fun z => absurd z (by decide), fun z => absurd z (by decide)⟩
        exact s_wi1 hv (yF (by decide) ⟨Or.inr rfl, kc 3 p c true i (by unfold canB; rw [if_neg (by decide), if_neg (by decide), if_neg (by decide)]) h fr_rf⟩)
      · refine s_wi0 hv (yT rfl ⟨Or.inl rfl, k0 ?_⟩)
        rintro ⟨a', p', c', i1, i2, i3, i4⟩
        have : a' = 3 := (nI_eq (b := 3) (by have := i4.1; omega) (by decide)).mp (i1.symm.trans q3)
        have c6 := i4.2.2.2.2.1 this
        rw [i3 (by omega)] at hv
        exact hv ⟨(nI_leI (a := 0) (by decide) (by omega)).mpr (Nat.zero_le _), (nI_leI (b := 9) (by omega) (by decide)).mpr (by omega)⟩
    · refine s_rm0 hr (yT rfl ⟨Or.inl rfl, k0 ?_⟩)
      rintro ⟨a', p', c', i1, i2, i3, i4⟩
      have : a' = 3 := (nI_eq (b := 3) (by have := i4.1; omega) (by decide)).mp (i1.symm.trans q3)
      have c6 := i4.2.2.1 this
      rw [i2] at hr
      exact hr ⟨(nI_leI (a := 0) (by decide) (by omega)).mpr (Nat.zero_le _), (nI_leI (b := 5) (by omega) (by decide)).mpr (by omega)⟩
theorem s_wo_earn_81 {K : gk_H → Prop} {v : Int32} {w : gk_WV} (e : wv h 81 = w) (k : ∀ h', wv h' 81 = earnP v w → fr (fun k => k = 81) h h' → K h') : gk_cv E (d + 2) jwo_earn [.ref 81, .int v] h K := by
  refine gk_cv_mk (x_wo_earn_81 ⟨by omega, ?_⟩)
  rw [wv_f e (s := 3) (by decide)]
  exact k _ (wv_F (by decide) e) (fr_hf rfl)
theorem s_ke_carryOut_87 {K : gk_H → Prop} {a0 a1 a2 : Int32} {a p c : Nat} (i : isD n a0 a1 a2 a p c) (cs : CS 81 h s) (g : gd n s) (k : ∀ h', CS 81 h' (doP true a p c s) → fr SK81 h h' → K h') : gk_cv E (d + 5) jke_carryOut [.ref 87, .int a0, .int a1, .int a2] h K := by
  obtain ⟨i1, i2, i3, o1, o2, o3, o4, o5, o6, o7⟩ := i
  have hn := g.1.1.1
  have wr := GW_wr g.1
  have te : ∀ k, S_teA k → SK81 k := fun k q => by unfold S_teA at q; unfold SK81; omega
  have aa : ∀ i, i ≤ 5 → SK81 (81 + i) := fun i hi => by unfold SK81; omega
  have ct : ∀ h', fr (fun k => 81 ≤ k ∧ k ≤ 86) h h' → CT h' 7 19 s.2 := fun h' f => CT_fr f (fun k h1 h2 q => by omega) cs.2
  have fa : ∀ h', fr (fun k => 81 ≤ k ∧ k ≤ 86) h h' → fr SK81 h h' := fun h' f => fr_mo f (fun k q => by unfold SK81; omega)
  rw [i1, i2]
  have ha : a = 0 ∨ a = 1 ∨ a = 2 ∨ a = 3 ∨ a = 4 ∨ a = 5 := by omega
  rcases ha with e | e | e | e | e | e
  · rw [e] at k
    have hp := o2 (by omega)
    rw [e]
    refine gk_cv_mk (x_ke_carryOut_87 (yT rfl ((s_te_tell_81 (by omega) cs.1 (GW_to g.1) cs.2 g.2).1 _ fun h1 f1 => ?_)))
    have c1 : CS 81 h1 s := CS_fr f1 (fun k h1 h2 q => by unfold S_teA at q; omega) (fun i hi q => by unfold S_teA at q; omega) cs
    refine gk_cv_mk (x_ke_purchase_87 (fe ⟨vp_in_nI (by omega) (by decide), ?_⟩))
    rw [nI_clamp (by omega), wv_f c1.1 (s := 3) (by decide)]
    refine fe (fe ?_)
    have w1 : wv (gk_hf h1 81 3 (s.1.1 3 - wor s.1 s.2 p)) 81 = wF s.1 3 (s.1.1 3 - wor s.1 s.2 p) := wv_F (by decide) c1.1
    have w2 : wv (gk_ha (gk_hf h1 81 3 (s.1.1 3 - wor s.1 s.2 p)) 85 p (wor s.1 s.2 p)) 81 = wP (wF s.1 3 (s.1.1 3 - wor s.1 s.2 p)) p (wor s.1 s.2 p) := wv_P (a := 81) (by omega) w1
    have e1 : (gk_ha (gk_hf h1 81 3 (s.1.1 3 - wor s.1 s.2 p)) 85 p (wor s.1 s.2 p)).1 81 1 = s.1.1 1 := wv_f w2 (by decide)
    have w3 : wv (gk_hf (gk_ha (gk_hf h1 81 3 (s.1.1 3 - wor s.1 s.2 p)) 85 p (wor s.1 s.2 p)) 81 1 (s.1.1 1 ||| ((1 : Int32) <<< (nI p &&& 31)))) 81 = wF (wP (wF s.1 3 (s.1.1 3 - wor s.1 s.2 p)) p (wor s.1 s.2 p)) 1 (s.1.1 1 ||| ((1 : Int32) <<< (nI p &&& 31))) := wv_F (by decide) w2
    have F3 : fr (fun k => 81 ≤ k ∧ k ≤ 86) h1 (gk_hf (gk_ha (gk_hf h1 81 3 (s.1.1 3 - wor s.1 s.2 p)) 85 p (wor s.1 s.2 p)) 81 1 (s.1.1 1 ||| ((1 : Int32) <<< (nI p &&& 31)))) := fr_tr (fr_tr (fr_hf (by omega)) (fr_ha (by omega))) (fr_hf (by omega))
    have goal := s_ke_note_87 (E := E) (d := d + 2) (a := 0) (b := nI p) (c := wor s.1 s.2 p) (K := fun h' => gk_qv K none h') (s := (wF (wP (wF s.1 3 (s.1.1 3 - wor s.1 s.2 p)) p (wor s.1 s.2 p)) 1 (s.1.1 1 ||| ((1 : Int32) <<< (nI p &&& 31))), s.2)) ⟨w3, CT_fr F3 (fun k h1 h2 q => by omega) c1.2⟩ wr (fun h' cs' f' => k h' (by rw [doP_0]; exact cs') (fr_tr (fr_mo f1 te) (fr_tr (fr_mo F3 (fun k q => by unfold SK81; omega)) f')))
    rw [← e1] at goal
    exact goal
  · rw [e] at k
    have hp := o2 (by omega)
    rw [e]
    refine gk_cv_mk (x_ke_carryOut_87 (yF (by decide) (yT rfl ((s_te_tell_81 (by omega) cs.1 (GW_to g.1) cs.2 g.2).1 _ fun h1 f1 => ?_))))
    have c1 : CS 81 h1 s := CS_fr f1 (fun k h1 h2 q => by unfold S_teA at q; omega) (fun i hi q => by unfold S_teA at q; omega) cs
    refine gk_cv_mk (x_ke_partWith_87 (s_wo_earn_81 c1.1 fun h2 w2 f2 => ⟨vp_in_nI (by omega) (by decide), ?_⟩))
    rw [nI_clamp (by omega)]
    refine fe ⟨vp_in_nI (by omega) (by decide), fe (fe ?_)⟩
    have w3 : wv (gk_ha h2 85 p 0) 81 = wP (earnP (wor s.1 s.2 p) s.1) p 0 := wv_P (a := 81) (by omega) w2
    have w4 : wv (gk_ha (gk_ha h2 85 p 0) 84 p (-1)) 81 = wH (wP (earnP (wor s.1 s.2 p) s.1) p 0) p (-1) := wv_H (a := 81) (by omega) w3
    have e1 : (gk_ha (gk_ha h2 85 p 0) 84 p (-1)).1 81 1 = s.1.1 1 := wv_f w4 (by decide)
    have w5 : wv (gk_hf (gk_ha (gk_ha h2 85 p 0) 84 p (-1)) 81 1 (s.1.1 1 &&& (((1 : Int32) <<< (nI p &&& 31)) ^^^ (-1 : Int32)))) 81 = wF (wH (wP (earnP (wor s.1 s.2 p) s.1) p 0) p (-1)) 1 (s.1.1 1 &&& (((1 : Int32) <<< (nI p &&& 31)) ^^^ (-1 : Int32))) := wv_F (by decide) w4
    have F3 : fr (fun k => 81 ≤ k ∧ k ≤ 86) h1 (gk_hf (gk_ha (gk_ha h2 85 p 0) 84 p (-1)) 81 1 (s.1.1 1 &&& (((1 : Int32) <<< (nI p &&& 31)) ^^^ (-1 : Int32)))) := fr_tr (fr_tr (fr_tr (fr_mo f2 (fun k q => by omega)) (fr_ha (by omega))) (fr_ha (by omega))) (fr_hf (by omega))
    have goal := s_ke_note_87 (E := E) (d := d + 2) (a := 1) (b := nI p) (c := wor s.1 s.2 p) (K := fun h' => gk_qv K none h') (s := (wF (wH (wP (earnP (wor s.1 s.2 p) s.1) p 0) p (-1)) 1 (s.1.1 1 &&& (((1 : Int32) <<< (nI p &&& 31)) ^^^ (-1 : Int32))), s.2)) ⟨w5, CT_fr F3 (fun k h1 h2 q => by omega) c1.2⟩ wr (fun h' cs' f' => k h' (by rw [doP_1]; exact cs') (fr_tr (fr_mo f1 te) (fr_tr (fr_mo F3 (fun k q => by unfold SK81; omega)) f')))
    rw [← e1] at goal
    exact goal
  · rw [e] at k
    have hp := o2 (by omega)
    rw [e, i3 (by omega)]
    refine gk_cv_mk (x_ke_carryOut_87 (yF (by decide) (yF (by decide) (yT rfl ⟨vp_in_nI (by omega) (by decide), ?_⟩))))
    rw [nI_clamp (by omega)]
    refine fe ?_
    have F3 : fr (fun k => 81 ≤ k ∧ k ≤ 86) h (gk_ha h 84 p (nI c)) := fr_ha (by omega)
    exact s_ke_note_87 (s := (wH s.1 p (nI c), s.2)) ⟨wv_H (a := 81) (by omega) cs.1, ct _ F3⟩ wr (fun h' cs' f' => k h' (by rw [doP_2]; exact cs') (fr_tr (fa _ F3) f'))
  · rw [e] at k
    have hp := o3 e
    rw [e, i3 (by omega)]
    refine gk_cv_mk (x_ke_carryOut_87 (yF (by decide) (yF (by decide) (yF (by decide) (yT rfl ⟨vp_in_nI (by omega) (by decide), ?_⟩)))))
    rw [nI_clamp (by omega)]
    refine fe ?_
    have F3 : fr (fun k => 81 ≤ k ∧ k ≤ 86) h (gk_ha h 86 p (nI c)) := fr_ha (by omega)
    exact k _ (by rw [doP_3]; exact ⟨wv_L (a := 81) (by omega) cs.1, ct _ F3⟩) (fa _ F3)
  · rw [e] at k
    have hp := o2 (by omega)
    have hc := o6 e
    rw [e, i3 (by omega)]
    refine gk_cv_mk (x_ke_carryOut_87 (yF (by decide) (yF (by decide) (yF (by decide) (yF (by decide) (yT rfl ?_))))))
    rw [nI_clamp (by omega), wv_f cs.1 (s := 2) (by decide)]
    refine fe ⟨vp_in_nI (by omega) (by decide), ?_⟩
    have w1 : wv (gk_hf h 81 2 (s.1.1 2 ||| ((1 : Int32) <<< (nI p &&& 31)))) 81 = wF s.1 2 (s.1.1 2 ||| ((1 : Int32) <<< (nI p &&& 31))) := wv_F (by decide) cs.1
    have ed : (gk_hf h 81 2 (s.1.1 2 ||| ((1 : Int32) <<< (nI p &&& 31)))).2.2 82 p = s.1.2.1 p := wv_d (a := 81) w1 (by omega)
    rw [ed]
    refine gk_cl_mk (x_gr_withRow ⟨vp_in_nI (by omega) (by decide), fe ?_⟩)
    have F3 : fr (fun k => 81 ≤ k ∧ k ≤ 86) h (gk_hl (gk_hf h 81 2 (s.1.1 2 ||| ((1 : Int32) <<< (nI p &&& 31)))) 82 p (wrow (s.1.2.1 p) (nI c) 0)) := fr_tr (fr_hf (by omega)) (fr_hl (by omega))
    exact s_ke_note_87 (d := d + 3) (a := 3) (b := nI p) (c := nI c) (K := fun h' => gk_qv K none h') (s := (wD (wF s.1 2 (s.1.1 2 ||| ((1 : Int32) <<< (nI p &&& 31)))) p (wrow (s.1.2.1 p) (nI c) 0), s.2)) ⟨wv_D (a := 81) (by omega) w1, ct _ F3⟩ wr (fun h' cs' f' => k h' (by rw [doP_4]; exact cs') (fr_tr (fa _ F3) f'))
  · rw [e] at k
    have hp := o2 (by omega)
    have hc := o7 e
    rw [e, i3 (by omega)]
    refine gk_cv_mk (x_ke_carryOut_87 (yF (by decide) (yF (by decide) (yF (by decide) (yF (by decide) (yF (by decide) (yT rfl ⟨vp_in_nI (by omega) (by decide), vp_in_nI (by omega) (by decide), ?_⟩)))))))
    have ed : h.2.2 82 p = s.1.2.1 p := wv_d (a := 81) cs.1 (by omega)
    rw [nI_clamp (by omega), ed]
    refine fe ?_
    have F3 : fr (fun k => 81 ≤ k ∧ k ≤ 86) h (gk_hl h 82 p (s.1.2.1 p &&& (((1 : Int64) <<< ((nI c).toInt64 &&& 63)) ^^^ (-1 : Int64)))) := fr_hl (by omega)
    exact k _ (by rw [doP_5]; exact ⟨wv_D (a := 81) (by omega) cs.1, ct _ F3⟩) (fa _ F3)
end K81
