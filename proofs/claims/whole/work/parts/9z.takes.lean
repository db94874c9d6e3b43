/-! text: what is taken; text whole -/
/-- from h the reference came to h2 -/
def Mx (h h2 : gk_H) (f0 f1 : Int32) (b : Bool) (T : gT) : Prop := fr S_tm2 h h2 ∧ h2.1 112 10 = 0 ∧ (h2.1 112 30 = f0 ∧ h2.1 112 31 = f1) ∧ (h2.1 112 5 = h.1 112 5 ∧ h2.1 112 6 = h.1 112 6 ∧ h2.1 112 52 = h.1 112 52) ∧ (b = false → h2.1 112 3 = h.1 112 3) ∧ (b = true → h2.1 112 3 = 0) ∧ MTl h2 T
section TAK
variable {E : gk_E} {d : Nat} {h : gk_H} {K : gk_H → Prop}
theorem s_mo_takes1 {v : Int32} (k : ∀ h', fr (fun k => k = 128) h h' → (∀ i, i < 36 → h'.2.1 128 i = h.2.1 128 (36 + i)) → K (gk_hf h' 112 32 v)) : gk_cv E (d + 1) jmo_takesOther [.ref 112, .int (1 : Int32), .int v] h K := by
  refine gk_cv_mk (x_mo_takesOther (zT rfl (fe ?_)))
  refine lp_up (N := 36) (fun j (u : gk_H) => g_mo_takesOther_7 E d (gk_qv K) v (nI j) u) (fun j u => fr (fun k => k = 128) h u ∧ (∀ i, i < j → u.2.1 128 i = h.2.1 128 (36 + i)) ∧ ∀ i, 36 ≤ i → u.2.1 128 i = h.2.1 128 i) ?_ ?_ 0 h (by decide) ⟨fr_rf, fun i hi => absurd hi (Nat.not_lt_zero _), fun _ _ => rfl⟩
  · intro j u hj iv ih
    refine x_mo_takesOther_7 (pk_le 36 j (fun q => by omega) (fun _ => ?_))
    rw [show (36 : Int32) + nI j = nI (36 + j) from nI_add 36 j]
    refine ⟨vp_in_nI (by omega) (by decide), vp_in_nI (by omega) (by decide), ?_⟩
    rw [nI_1, nI_clamp (by omega), nI_clamp (by omega)]
    refine fe (fe (ih _ ⟨fr_tr iv.1 (fr_ha rfl), fun i hi => ?_, fun i hi => ?_⟩))
    · rw [OW_set]
      by_cases q : i = j
      · rw [if_pos q, q]; exact iv.2.2 _ (by omega)
      · rw [if_neg q]; exact iv.2.1 i (by omega)
    · rw [OW_set, if_neg (by omega)]; exact iv.2.2 i hi
  · intro u iv
    exact x_mo_takesOther_7 (pk_le 36 36 (fun _ => fe (k u iv.1 iv.2.1)) (fun q => by omega))
theorem s_mo_takes3 {v : Int32} (k : ∀ h', fr (fun k => k = 130) h h' → (∀ i, i < 10 → h'.2.1 130 i = h.2.1 130 (10 + i)) → K (gk_hf h' 112 36 v)) : gk_cv E (d + 1) jmo_takesOther [.ref 112, .int (3 : Int32), .int v] h K := by
  refine gk_cv_mk (x_mo_takesOther (zF (by decide) (zF (by decide) (fe ?_))))
  refine lp_up (N := 10) (fun j (u : gk_H) => g_mo_takesOther_92 E d (gk_qv K) v (nI j) u) (fun j u => fr (fun k => k = 130) h u ∧ (∀ i, i < j → u.2.1 130 i = h.2.1 130 (10 + i)) ∧ ∀ i, 10 ≤ i → u.2.1 130 i = h.2.1 130 i) ?_ ?_ 0 h (by decide) ⟨fr_rf, fun i hi => absurd hi (Nat.not_lt_zero _), fun _ _ => rfl⟩
  · intro j u hj iv ih
    refine x_mo_takesOther_92 (pk_le 10 j (fun q => by omega) (fun _ => ?_))
    rw [show (10 : Int32) + nI j = nI (10 + j) from nI_add 10 j]
    refine ⟨vp_in_nI (by omega) (by decide), vp_in_nI (by omega) (by decide), ?_⟩
    rw [nI_1, nI_clamp (by omega), nI_clamp (by omega)]
    refine fe (fe (ih _ ⟨fr_tr iv.1 (fr_ha rfl), fun i hi => ?_, fun i hi => ?_⟩))
    · rw [OW_set]
      by_cases q : i = j
      · rw [if_pos q, q]; exact iv.2.2 _ (by omega)
      · rw [if_neg q]; exact iv.2.1 i (by omega)
    · rw [OW_set, if_neg (by omega)]; exact iv.2.2 i hi
  · intro u iv
    exact x_mo_takesOther_92 (pk_le 10 10 (fun _ => fe (k u iv.1 iv.2.1)) (fun q => by omega))
theorem s_mo_takes2 {m : Nat} (hm : m ≤ 16) (k : ∀ h', fr (fun k => k = 129) h h' → (∀ i, i < 4 * m → h'.2.1 129 i = h.2.1 129 (64 + i)) → K (gk_hf (gk_hf h' 112 34 (nI m)) 112 3 0)) : gk_cv E (d + 1) jmo_takesOther [.ref 112, .int (2 : Int32), .int (nI m)] h K := by
  refine gk_cv_mk (x_mo_takesOther (zF (by decide) (zT rfl (fe ?_))))
  have e4 : (4 : Int32) * nI m = nI (4 * m) := pk_mul 4 m
  refine lp_up (N := 4 * m) (fun j (u : gk_H) => g_mo_takesOther_49 E d (gk_qv K) (nI m) (nI j) u) (fun j u => fr (fun k => k = 129) h u ∧ (∀ i, i < j → u.2.1 129 i = h.2.1 129 (64 + i)) ∧ ∀ i, 64 ≤ i → u.2.1 129 i = h.2.1 129 i) ?_ ?_ 0 h (Nat.zero_le _) ⟨fr_rf, fun i hi => absurd hi (Nat.not_lt_zero _), fun _ _ => rfl⟩
  · intro j u hj iv ih
    refine x_mo_takesOther_49 ?_
    unfold w_mo_takesOther_49
    rw [e4]
    refine pk_le (4 * m) j (fun q => by omega) (fun _ => ?_)
    rw [show (64 : Int32) + nI j = nI (64 + j) from nI_add 64 j]
    refine ⟨vp_in_nI (by omega) (by decide), vp_in_nI (by omega) (by decide), ?_⟩
    rw [nI_1, nI_clamp (by omega), nI_clamp (by omega)]
    refine fe (fe (ih _ ⟨fr_tr iv.1 (fr_ha rfl), fun i hi => ?_, fun i hi => ?_⟩))
    · rw [OW_set]
      by_cases q : i = j
      · rw [if_pos q, q]; exact iv.2.2 _ (by omega)
      · rw [if_neg q]; exact iv.2.1 i (by omega)
    · rw [OW_set, if_neg (by omega)]; exact iv.2.2 i hi
  · intro u iv
    refine x_mo_takesOther_49 ?_
    unfold w_mo_takesOther_49
    rw [e4]
    exact pk_le (4 * m) (4 * m) (fun _ => fe (fe (k u iv.1 iv.2.1))) (fun q => by omega)
theorem s_mo_takes0 {l m : Nat} (hl : l ≤ 16) (hm : m ≤ 400) (e23 : h.1 112 23 = 0) (e24 : h.1 112 24 = nI m) (k : ∀ h', fr (fun k => 120 ≤ k ∧ k ≤ 126) h h' → h'.2.1 120 0 = nI l → (∀ i, i < l → h'.2.1 121 i = h.2.1 121 (32 + i) ∧ h'.2.1 122 i = h.2.1 122 (32 + i) ∧ h'.2.1 123 i = h.2.1 123 (32 + i) ∧ h'.2.1 124 i = h.2.1 124 (32 + i)) → (∀ i, i < m → h'.2.1 125 i = h.2.1 125 (800 + i) ∧ h'.2.1 126 i = h.2.1 126 (800 + i)) → K h') : gk_cv E (d + 1) jmo_takesLaw [.ref 112, .int (nI l)] h K := by
  have z16 : ∀ j : Nat, (16 : Int32) * 0 + nI j = nI j := fun j => by rw [show (16 : Int32) * 0 = 0 by decide, Int32.zero_add]
  have z400 : ∀ j : Nat, (400 : Int32) * 0 + nI j = nI j := fun j => by rw [show (400 : Int32) * 0 = 0 by decide, Int32.zero_add]
  have codes : ∀ h1 : gk_H, fr (fun k => 121 ≤ k ∧ k ≤ 124) h h1 → (∀ i, i < l → h1.2.1 121 i = h.2.1 121 (32 + i) ∧ h1.2.1 122 i = h.2.1 122 (32 + i) ∧ h1.2.1 123 i = h.2.1 123 (32 + i) ∧ h1.2.1 124 i = h.2.1 124 (32 + i)) → g_mo_takesLaw_107 E d (gk_qv K) (nI l) 0 h1 := by
    intro h1 f1 L1
    refine lp_up (N := m) (fun j (u : gk_H) => g_mo_takesLaw_107 E d (gk_qv K) (nI l) (nI j) u) (fun j u => fr (fun k => k = 125 ∨ k = 126) h1 u ∧ (∀ i, i < j → u.2.1 125 i = h.2.1 125 (800 + i) ∧ u.2.1 126 i = h.2.1 126 (800 + i)) ∧ ∀ i, 800 ≤ i → u.2.1 125 i = h.2.1 125 i ∧ u.2.1 126 i = h.2.1 126 i) ?_ ?_ 0 h1 (Nat.zero_le _) ⟨fr_rf, fun i hi => absurd hi (Nat.not_lt_zero _), fun i _ => ⟨by rw [(f1 125 (by omega)).2.1], by rw [(f1 126 (by omega)).2.1]⟩⟩
    · intro j u hj iv ih
      have g : u.1 112 = h.1 112 := (iv.1 112 (by omega)).1.trans (f1 112 (by omega)).1
      refine x_mo_takesLaw_107 ?_
      unfold w_mo_takesLaw_107
      rw [g, e24, e23]
      refine pk_le m j (fun q => by omega) (fun _ => ?_)
      rw [show (800 : Int32) + nI j = nI (800 + j) from nI_add 800 j, z400, nI_clamp (by omega), nI_clamp (by omega)]
      refine ⟨vp_in_nI (by omega) (by decide), vp_in_nI (by omega) (by decide), fe ?_⟩
      rw [ha_1, g, e23, z400, nI_clamp (by omega)]
      refine ⟨vp_in_nI (by omega) (by decide), vp_in_nI (by omega) (by decide), fe ?_⟩
      rw [nI_1]
      refine fe (ih _ ⟨fr_tr iv.1 (fr_tr (fr_ha (Or.inl rfl)) (fr_ha (Or.inr rfl))), fun i hi => ⟨?_, ?_⟩, fun i hi => ⟨?_, ?_⟩⟩)
      · rw [ha_o (by decide), OW_set]
        by_cases q : i = j
        · rw [if_pos q, q]; exact (iv.2.2 _ (by omega)).1
        · rw [if_neg q]; exact (iv.2.1 i (by omega)).1
      · rw [OW_set, ha_o (by decide)]
        by_cases q : i = j
        · rw [if_pos q, q]; exact (iv.2.2 _ (by omega)).2
        · rw [if_neg q, ha_o (by decide)]; exact (iv.2.1 i (by omega)).2
      · rw [ha_o (by decide), OW_set, if_neg (by omega)]; exact (iv.2.2 i hi).1
      · rw [OW_set, if_neg (by omega), ha_o (by decide)]; exact (iv.2.2 i hi).2
    · intro u iv
      have g : u.1 112 = h.1 112 := (iv.1 112 (by omega)).1.trans (f1 112 (by omega)).1
      refine x_mo_takesLaw_107 ?_
      unfold w_mo_takesLaw_107
      rw [g, e24, e23]
      refine pk_le m m (fun _ => ⟨vpi (by decide), fe (k _ ?_ ?_ (fun i hi => ?_) (fun i hi => ?_))⟩) (fun q => by omega)
      · exact fr_tr (fr_mo f1 (fun k q => by omega)) (fr_tr (fr_mo iv.1 (fun k q => by omega)) (fr_ha (by omega)))
      · rw [show (0 : Int32).toNatClampNeg = 0 by decide, OW_set, if_pos rfl]
      · rw [ha_o (by decide), ha_o (by decide), ha_o (by decide), ha_o (by decide), (iv.1 121 (by omega)).2.1, (iv.1 122 (by omega)).2.1, (iv.1 123 (by omega)).2.1, (iv.1 124 (by omega)).2.1]
        exact L1 i hi
      · rw [ha_o (by decide), ha_o (by decide)]
        exact iv.2.1 i hi
  refine gk_cv_mk (x_mo_takesLaw (fe ?_))
  refine lp_up (N := l) (fun j (u : gk_H) => g_mo_takesLaw_2 E d (gk_qv K) (nI l) (nI j) u) (fun j u => fr (fun k => 121 ≤ k ∧ k ≤ 124) h u ∧ (∀ i, i < j → u.2.1 121 i = h.2.1 121 (32 + i) ∧ u.2.1 122 i = h.2.1 122 (32 + i) ∧ u.2.1 123 i = h.2.1 123 (32 + i) ∧ u.2.1 124 i = h.2.1 124 (32 + i)) ∧ ∀ i, 32 ≤ i → u.2.1 121 i = h.2.1 121 i ∧ u.2.1 122 i = h.2.1 122 i ∧ u.2.1 123 i = h.2.1 123 i ∧ u.2.1 124 i = h.2.1 124 i) ?_ ?_ 0 h (Nat.zero_le _) ⟨fr_rf, fun i hi => absurd hi (Nat.not_lt_zero _), fun _ _ => ⟨rfl, rfl, rfl, rfl⟩⟩
  · intro j u hj iv ih
    have g : u.1 112 = h.1 112 := (iv.1 112 (by omega)).1
    have v1 : vp_in (nI (32 + j)) 48 := vp_in_nI (by omega) (by decide)
    have v2 : vp_in (nI j) 48 := vp_in_nI (by omega) (by decide)
    have c1 : (nI (32 + j)).toNatClampNeg = 32 + j := nI_clamp (by omega)
    have c2 : (nI j).toNatClampNeg = j := nI_clamp (by omega)
    refine x_mo_takesLaw_2 ?_
    unfold w_mo_takesLaw_2
    refine pk_le l j (fun q => by omega) (fun _ => ?_)
    rw [g, e23, show (32 : Int32) + nI j = nI (32 + j) from nI_add 32 j, z16, c1, c2]
    refine ⟨v1, v2, fe ?_⟩
    rw [ha_1, g, e23, z16, c2]
    refine ⟨v1, v2, fe ?_⟩
    rw [ha_1, ha_1, g, e23, z16, c2]
    refine ⟨v1, v2, fe ?_⟩
    rw [ha_1, ha_1, ha_1, g, e23, z16, c2]
    refine ⟨v1, v2, fe ?_⟩
    rw [nI_1]
    obtain ⟨i1, i2, i3⟩ := iv
    obtain ⟨s1, s2, s3, s4⟩ := i3 (32 + j) (by omega)
    have p1 : ∀ (w : gk_H) (x y z t : Int32) (i : Nat), (gk_ha (gk_ha (gk_ha (gk_ha w 121 j x) 122 j y) 123 j z) 124 j t).2.1 121 i = (if i = j then x else w.2.1 121 i) ∧ (gk_ha (gk_ha (gk_ha (gk_ha w 121 j x) 122 j y) 123 j z) 124 j t).2.1 122 i = (if i = j then y else w.2.1 122 i) ∧ (gk_ha (gk_ha (gk_ha (gk_ha w 121 j x) 122 j y) 123 j z) 124 j t).2.1 123 i = (if i = j then z else w.2.1 123 i) ∧ (gk_ha (gk_ha (gk_ha (gk_ha w 121 j x) 122 j y) 123 j z) 124 j t).2.1 124 i = (if i = j then t else w.2.1 124 i) := by
      intro w x y z t i
      refine ⟨?_, ?_, ?_, ?_⟩
      · rw [ha_o (by decide), ha_o (by decide), ha_o (by decide), OW_set]
      · rw [ha_o (by decide), ha_o (by decide), OW_set, ha_o (by decide)]
      · rw [ha_o (by decide), OW_set, ha_o (by decide), ha_o (by decide)]
      · rw [OW_set, ha_o (by decide), ha_o (by decide), ha_o (by decide)]
    refine fe (ih _ ⟨fr_tr i1 (fr_tr (fr_ha (by omega)) (fr_tr (fr_ha (by omega)) (fr_tr (fr_ha (by omega)) (fr_ha (by omega))))), fun i hi => ?_, fun i hi => ?_⟩)
    · obtain ⟨q1, q2, q3, q4⟩ := p1 u (u.2.1 121 (32 + j)) _ _ _ i
      rw [q1, q2, q3, q4]
      by_cases q : i = j
      · rw [if_pos q, if_pos q, if_pos q, if_pos q, q]
        refine ⟨s1, ?_, ?_, ?_⟩
        · rw [ha_o (by decide)]; exact s2
        · rw [ha_o (by decide), ha_o (by decide)]; exact s3
        · rw [ha_o (by decide), ha_o (by decide), ha_o (by decide)]; exact s4
      · rw [if_neg q, if_neg q, if_neg q, if_neg q]; exact i2 i (by omega)
    · obtain ⟨q1, q2, q3, q4⟩ := p1 u (u.2.1 121 (32 + j)) _ _ _ i
      rw [q1, q2, q3, q4, if_neg (by omega), if_neg (by omega), if_neg (by omega), if_neg (by omega)]
      exact i3 i hi
  · intro u iv
    exact x_mo_takesLaw_2 (pk_le l l (fun _ => fe (codes u iv.1 iv.2.1)) (fun q => by omega))
end TAK
/-- text out of its reading and of its taking -/
theorem s_mo_text {E : gk_E} {d : Nat} {h : gk_H} {T : gT} {α : Type} {R : pRe (Nat × α)} {TT : Nat × α → gT} {b : Bool} {a0 : Int32} (ha : (0 : Int32) ≤ a0 ∧ a0 ≤ 3) (Mo : gk_H → Nat × α → Prop) (h16 : ∀ x, R = .ok x → x.1 ≤ 16) (hread : ∀ G : Int32 → gk_H → Prop, OC R (fun e => ∀ h', MRe h h' T e → G (-1) h') (fun x => ∀ h', Mo h' x → G (nI x.1) h') → gk_ci E (d + 11) jmo_readsText [.ref 112, .int a0] (m6 h) G) (htake : ∀ x h' (G : gk_H → Prop), R = .ok x → Mo h' x → (∀ h2, Mx h h2 0 (-1) b (TT x) → G h2) → (¬ a0 = 0 → gk_cv E (d + 11) jmo_takesOther [.ref 112, .int a0, .int (nI x.1)] (gk_hf h' 112 10 0) G) ∧ (a0 = 0 → gk_cv E (d + 11) jmo_takesLaw [.ref 112, .int (nI x.1)] (gk_hf h' 112 10 0) G)) {K : Int32 → gk_H → Prop} (k : OC R (fun e => ∀ h2, Mx h h2 (nI e.1) (nI e.2) false T → K (-1) h2) (fun x => ∀ h2, Mx h h2 0 (-1) b (TT x) → K (nI x.1) h2)) : gk_ci E (d + 12) jmo_text [.ref 112, .int a0] h K := by
  refine gk_ci_mk (x_mo_text (fe (fe (fe (fe (fe (fe (fe (s_in1 (d := d + 10) ha (yF (by decide) ?_))))))))))
  refine hread _ (OC_mo k (fun e H h' me => fe (zT rfl (fe (fe (fe (zT rfl (H _ ?_))))))) (fun x ex H h' mo => ?_))
  · obtain ⟨⟨r1, r2, ⟨r3, r4, r5⟩, r6⟩, e1, e2⟩ := me
    have F : ∀ f, ¬ (f = 10 ∨ f = 30 ∨ f = 31) → (gk_hf (gk_hf (gk_hf h' 112 30 (h'.1 112 28)) 112 31 ((gk_hf h' 112 30 (h'.1 112 28)).1 112 29)) 112 10 0).1 112 f = h'.1 112 f := fun f hf => by
      rw [hf_f, if_neg (by omega), hf_f, if_neg (by omega), hf_f, if_neg (by omega)]
    refine ⟨fr_tr r1 (fr_tr (fr_hf (by unfold S_tm2; omega)) (fr_tr (fr_hf (by unfold S_tm2; omega)) (fr_hf (by unfold S_tm2; omega)))), ?_, ⟨?_, ?_⟩, ⟨?_, ?_, ?_⟩, fun _ => ?_, fun q => (by cases q), ?_⟩
    · rw [hf_f, if_pos ⟨rfl, rfl⟩]
    · rw [hf_f, if_neg (by decide), hf_f, if_neg (by decide), hf_f, if_pos ⟨rfl, rfl⟩]; exact e1
    · rw [hf_f, if_neg (by decide), hf_f, if_pos ⟨rfl, rfl⟩, hf_f, if_neg (by decide)]; exact e2
    · rw [F 5 (by decide)]; exact r2 5 (by decide)
    · rw [F 6 (by decide)]; exact r2 6 (by decide)
    · rw [F 52 (by decide)]; exact r2 52 (by decide)
    · rw [F 3 (by decide)]; exact r2 3 (by decide)
    · exact MTl_eq (fun k _ _ => rfl) (F 32 (by decide)) (F 34 (by decide)) (F 36 (by decide)) r6
  · have i16 := h16 x ex
    have n1 : ¬ nI x.1 = (-1 : Int32) := nI_m1 (by omega)
    exact fe (zF n1 (fe (zF n1 (htake x h' _ ex mo (fun h2 m2 => H h2 m2)))))
section TXM
variable {E : gk_E} {d : Nat} {h : gk_H} {n pl : Nat} {s : Nat → Nat} {T : gT} {K : Int32 → gk_H → Prop}
/-- fields of a store behind the reading -/
theorem Mx_of {h' h2 : gk_H} {b : Bool} {T' : gT} (r : MR h h' T) (f : fr S_tm2 (gk_hf h' 112 10 0) h2) (e : ∀ g, (g = 5 ∨ g = 6 ∨ g = 10 ∨ g = 30 ∨ g = 31 ∨ g = 52) → h2.1 112 g = (gk_hf h' 112 10 0).1 112 g) (e3 : b = false → h2.1 112 3 = h'.1 112 3) (e3' : b = true → h2.1 112 3 = 0) (m : MTl h2 T') : Mx h h2 0 (-1) b T' := by
  obtain ⟨r1, r2, ⟨r3, r4, r5⟩, r6⟩ := r
  have o : ∀ g, ¬ g = 10 → (gk_hf h' 112 10 0).1 112 g = h'.1 112 g := fun g hg => by rw [hf_f, if_neg (by omega)]
  refine ⟨fr_tr r1 (fr_tr (fr_hf (by unfold S_tm2; omega)) f), ?_, ⟨?_, ?_⟩, ⟨?_, ?_, ?_⟩, fun q => (e3 q).trans (r2 3 (by decide)), e3', m⟩
  · rw [e 10 (by decide), hf_f, if_pos ⟨rfl, rfl⟩]
  · rw [e 30 (by decide), o 30 (by decide)]; exact r3
  · rw [e 31 (by decide), o 31 (by decide)]; exact r4
  · rw [e 5 (by decide), o 5 (by decide)]; exact r2 5 (by decide)
  · rw [e 6 (by decide), o 6 (by decide)]; exact r2 6 (by decide)
  · rw [e 52 (by decide), o 52 (by decide)]; exact r2 52 (by decide)
theorem m_text1 (h16 : T.1.2.1 ≤ 16) (o : okK (tkT s n) n) (tm : TMs h n s) (wr : wordsR h) (m : MTl h T) (k : OC (pTx (tkT s n) (fun x => x == 111) (psL (tkT s n)) 17 0 (pos s n 0) (fun _ => 0)) (fun e => ∀ h2, Mx h h2 (nI e.1) (nI e.2) false T → K (-1) h2) (fun x => ∀ h2, Mx h h2 0 (-1) false (tP T x.1 x.2) → K (nI x.1) h2)) : gk_ci E (d + 12) jmo_text [.ref 112, .int (1 : Int32)] h K := by
  refine s_mo_text (d := d) (T := T) (R := pTx (tkT s n) (fun x => x == 111) (psL (tkT s n)) 17 0 (pos s n 0) (fun _ => 0)) (TT := fun x => tP T x.1 x.2) (b := false) (by decide) (fun h' x => MR h h' T ∧ ∀ i, i < 36 → h'.2.1 128 (36 + i) = nI (x.2 i)) (fun x ex => pas_I ex) (fun G kk => r_text1 (d := d) h16 o tm wr m (OC_mo kk (fun e H => H) (fun x _ H h' a b => H h' ⟨a, b⟩))) (fun x h' G ex mo g => ?_) k
  refine zF (by decide) (s_mo_takes1 (d := d + 10) (fun h'' f e => g _ ?_))
  have q : ∀ k, ¬ k = 128 → h''.2.1 k = h'.2.1 k := fun k hk => (f k hk).2.1
  have F : h''.1 112 = (gk_hf h' 112 10 0).1 112 := (f 112 (by decide)).1
  have F' : ∀ g, ¬ g = 10 → h''.1 112 g = h'.1 112 g := fun g hg => by rw [F, hf_f, if_neg (by omega)]
  refine Mx_of mo.1 (fr_tr (fr_mo f (fun k q => by unfold S_tm2; omega)) (fr_hf (by unfold S_tm2; omega))) (fun g hg => by rw [hf_f, if_neg (by omega), F]) (fun _ => by rw [hf_f, if_neg (by decide), F' 3 (by decide)]) (fun q => (by cases q)) ?_
  obtain ⟨⟨m1, m2, m3⟩, m4, m5, m6, m7, m8⟩ := mo.1.2.2.2
  refine ⟨⟨?_, ?_, ?_⟩, fun k hk => (e k hk).trans (mo.2 k hk), fun k hk => ?_, fun k hk => ?_, ?_, fun k hk => ?_⟩
  · rw [hf_f, if_pos ⟨rfl, rfl⟩]; rfl
  · rw [hf_f, if_neg (by decide), F' 34 (by decide)]; exact m2
  · rw [hf_f, if_neg (by decide), F' 36 (by decide)]; exact m3
  · show h''.2.1 129 k = _
    rw [q 129 (by decide)]; exact m5 k hk
  · show h''.2.1 130 k = _
    rw [q 130 (by decide)]; exact m6 k hk
  · show mLaw (h''.2.1 120 0) (h''.2.1 121) (h''.2.1 122) (h''.2.1 123) (h''.2.1 124) (h''.2.1 125) (h''.2.1 126) _
    rw [q 120 (by decide), q 121 (by decide), q 122 (by decide), q 123 (by decide), q 124 (by decide), q 125 (by decide), q 126 (by decide)]; exact m7
  · show h''.2.1 117 k = _
    rw [q 117 (by decide)]; exact m8 k hk
theorem m_text3 (hpl : pl ≤ 10) (e6 : h.1 112 6 = nI pl) (h16 : T.1.2.1 ≤ 16) (o : okK (tkT s n) n) (tm : TMs h n s) (wr : wordsR h) (m : MTl h T) (k : OC (pTx (tkT s n) (fun x => x == 123) (vcL (tkT s n) pl) 17 0 (pos s n 0) (fun _ => 0)) (fun e => ∀ h2, Mx h h2 (nI e.1) (nI e.2) false T → K (-1) h2) (fun x => ∀ h2, Mx h h2 0 (-1) false (tV T x.1 x.2) → K (nI x.1) h2)) : gk_ci E (d + 12) jmo_text [.ref 112, .int (3 : Int32)] h K := by
  refine s_mo_text (d := d) (T := T) (R := pTx (tkT s n) (fun x => x == 123) (vcL (tkT s n) pl) 17 0 (pos s n 0) (fun _ => 0)) (TT := fun x => tV T x.1 x.2) (b := false) (by decide) (fun h' x => MR h h' T ∧ ∀ i, i < 10 → h'.2.1 130 (10 + i) = x.2 i) (fun x ex => (vou_I hpl o ex).2) (fun G kk => r_text3 (d := d) hpl e6 h16 o tm wr m (OC_mo kk (fun e H => H) (fun x _ H h' a b => H h' ⟨a, b⟩))) (fun x h' G ex mo g => ?_) k
  refine zF (by decide) (s_mo_takes3 (d := d + 10) (fun h'' f e => g _ ?_))
  have q : ∀ k, ¬ k = 130 → h''.2.1 k = h'.2.1 k := fun k hk => (f k hk).2.1
  have F : h''.1 112 = (gk_hf h' 112 10 0).1 112 := (f 112 (by decide)).1
  have F' : ∀ g, ¬ g = 10 → h''.1 112 g = h'.1 112 g := fun g hg => by rw [F, hf_f, if_neg (by omega)]
  refine Mx_of mo.1 (fr_tr (fr_mo f (fun k q => by unfold S_tm2; omega)) (fr_hf (by unfold S_tm2; omega))) (fun g hg => by rw [hf_f, if_neg (by omega), F]) (fun _ => by rw [hf_f, if_neg (by decide), F' 3 (by decide)]) (fun q => (by cases q)) ?_
  obtain ⟨⟨m1, m2, m3⟩, m4, m5, m6, m7, m8⟩ := mo.1.2.2.2
  refine ⟨⟨?_, ?_, ?_⟩, fun k hk => ?_, fun k hk => ?_, fun k hk => (e k hk).trans (mo.2 k hk), ?_, fun k hk => ?_⟩
  · rw [hf_f, if_neg (by decide), F' 32 (by decide)]; exact m1
  · rw [hf_f, if_neg (by decide), F' 34 (by decide)]; exact m2
  · rw [hf_f, if_pos ⟨rfl, rfl⟩]; rfl
  · show h''.2.1 128 k = _
    rw [q 128 (by decide)]; exact m4 k hk
  · show h''.2.1 129 k = _
    rw [q 129 (by decide)]; exact m5 k hk
  · show mLaw (h''.2.1 120 0) (h''.2.1 121) (h''.2.1 122) (h''.2.1 123) (h''.2.1 124) (h''.2.1 125) (h''.2.1 126) _
    rw [q 120 (by decide), q 121 (by decide), q 122 (by decide), q 123 (by decide), q 124 (by decide), q 125 (by decide), q 126 (by decide)]; exact m7
  · show h''.2.1 117 k = _
    rw [q 117 (by decide)]; exact m8 k hk
theorem m_text2 (hpl : pl ≤ 10) (e6 : h.1 112 6 = nI pl) (h16 : T.1.2.1 ≤ 16) (o : okK (tkT s n) n) (tm : TMs h n s) (wr : wordsR h) (m : MTl h T) (k : OC (pTx (tkT s n) (fun x => x == 117) (dyL (tkT s n) pl) 17 0 (pos s n 0) []) (fun e => ∀ h2, Mx h h2 (nI e.1) (nI e.2) false T → K (-1) h2) (fun x => ∀ h2, Mx h h2 0 (-1) true (tD T x.2) → K (nI x.1) h2)) : gk_ci E (d + 12) jmo_text [.ref 112, .int (2 : Int32)] h K := by
  refine s_mo_text (d := d) (T := T) (R := pTx (tkT s n) (fun x => x == 117) (dyL (tkT s n) pl) 17 0 (pos s n 0) []) (TT := fun x => tD T x.2) (b := true) (by decide) (fun h' x => MR h h' T ∧ ∀ i, i < 4 * x.2.length → h'.2.1 129 (64 + i) = dF x.2 i) (fun x ex => (dia_I hpl o ex).2) (fun G kk => r_text2 (d := d) hpl e6 h16 o tm wr m (OC_mo kk (fun e H => H) (fun x _ H h' a b => H h' ⟨a, b⟩))) (fun x h' G ex mo g => ?_) k
  obtain ⟨⟨i1, -⟩, i3⟩ := dia_I hpl o ex
  refine zF (by decide) (s_mo_takes2 (d := d + 10) i3 (fun h'' f e => g _ ?_))
  have q : ∀ k, ¬ k = 129 → h''.2.1 k = h'.2.1 k := fun k hk => (f k hk).2.1
  have F : h''.1 112 = (gk_hf h' 112 10 0).1 112 := (f 112 (by decide)).1
  have F' : ∀ g, ¬ g = 10 → h''.1 112 g = h'.1 112 g := fun g hg => by rw [F, hf_f, if_neg (by omega)]
  refine Mx_of mo.1 (fr_tr (fr_mo f (fun k q => by unfold S_tm2; omega)) (fr_tr (fr_hf (by unfold S_tm2; omega)) (fr_hf (by unfold S_tm2; omega)))) (fun g hg => by rw [hf_f, if_neg (by omega), hf_f, if_neg (by omega), F]) (fun q => (by cases q)) (fun _ => by rw [hf_f, if_pos ⟨rfl, rfl⟩]) ?_
  obtain ⟨⟨m1, m2, m3⟩, m4, m5, m6, m7, m8⟩ := mo.1.2.2.2
  refine ⟨⟨?_, ?_, ?_⟩, fun k hk => ?_, fun k hk => ?_, fun k hk => ?_, ?_, fun k hk => ?_⟩
  · rw [hf_f, if_neg (by decide), hf_f, if_neg (by decide), F' 32 (by decide)]; exact m1
  · rw [hf_f, if_neg (by decide), hf_f, if_pos ⟨rfl, rfl⟩]
    show nI x.1 = nI x.2.length
    rw [i1]
  · rw [hf_f, if_neg (by decide), hf_f, if_neg (by decide), F' 36 (by decide)]; exact m3
  · show h''.2.1 128 k = _
    rw [q 128 (by decide)]; exact m4 k hk
  · have hk : k < 4 * x.2.length := hk
    exact (e k (by omega)).trans (mo.2 k hk)
  · show h''.2.1 130 k = _
    rw [q 130 (by decide)]; exact m6 k hk
  · show mLaw (h''.2.1 120 0) (h''.2.1 121) (h''.2.1 122) (h''.2.1 123) (h''.2.1 124) (h''.2.1 125) (h''.2.1 126) _
    rw [q 120 (by decide), q 121 (by decide), q 122 (by decide), q 123 (by decide), q 124 (by decide), q 125 (by decide), q 126 (by decide)]; exact m7
  · show h''.2.1 117 k = _
    rw [q 117 (by decide)]; exact m8 k hk
theorem m_text0 (h16 : T.1.2.1 ≤ 16) (o : okK (tkT s n) n) (tm : TMs h n s) (wr : wordsR h) (m : MTl h T) (x4 : ∀ x, pTx (tkT s n) begL (lwL (tkT s n)) 17 0 (pos s n 0) ([], []) = .ok x → (X x.2.2).length ≤ 400) (k : OC (pTx (tkT s n) begL (lwL (tkT s n)) 17 0 (pos s n 0) ([], [])) (fun e => ∀ h2, Mx h h2 (nI e.1) (nI e.2) false T → K (-1) h2) (fun x => ∀ h2, Mx h h2 0 (-1) false (tW T (x.2.1.map lnOf)) → K (nI x.1) h2)) : gk_ci E (d + 12) jmo_text [.ref 112, .int (0 : Int32)] h K := by
  refine s_mo_text (d := d) (T := T) (R := pTx (tkT s n) begL (lwL (tkT s n)) 17 0 (pos s n 0) ([], [])) (TT := fun x => tW T (x.2.1.map lnOf)) (b := false) (by decide) (fun h' x => MR h h' T ∧ MCo h' (X x.2.2) ∧ MLn h' x.2.1) (fun x ex => (law_I o ex).2) (fun G kk => r_text0 (d := d) h16 o tm wr m (OC_mo kk (fun e H => H) (fun x _ H h' a b c => H h' ⟨a, b, c⟩))) (fun x h' G ex mo g => ?_) k
  obtain ⟨⟨i1, i2⟩, i3⟩ := law_I o ex
  have l4 := x4 x ex
  obtain ⟨mr, co, ln⟩ := mo
  refine zT rfl (s_mo_takes0 (d := d + 10) (m := (X x.2.2).length) i3 l4 ?_ ?_ (fun h'' f e0 e1 e2 => g _ ?_))
  · rw [hf_f, if_neg (by decide)]; exact mr.2.2.1.2.2
  · rw [hf_f, if_neg (by decide)]; exact co.1
  have q : ∀ k, ¬ (120 ≤ k ∧ k ≤ 126) → h''.2.1 k = h'.2.1 k := fun k hk => (f k hk).2.1
  have F : h''.1 112 = (gk_hf h' 112 10 0).1 112 := (f 112 (by omega)).1
  have F' : ∀ g, ¬ g = 10 → h''.1 112 g = h'.1 112 g := fun g hg => by rw [F, hf_f, if_neg (by omega)]
  refine Mx_of mr (fr_mo f (fun k q => by unfold S_tm2; omega)) (fun g hg => by rw [F]) (fun _ => F' 3 (by decide)) (fun q => (by cases q)) ?_
  obtain ⟨⟨m1, m2, m3⟩, m4, m5, m6, m7, m8⟩ := mr.2.2.2
  refine ⟨⟨(F' 32 (by decide)).trans m1, (F' 34 (by decide)).trans m2, (F' 36 (by decide)).trans m3⟩, fun k hk => ?_, fun k hk => ?_, fun k hk => ?_, ?_, fun k hk => ?_⟩
  · rw [q 128 (by omega)]; exact m4 k hk
  · rw [q 129 (by omega)]; exact m5 k hk
  · rw [q 130 (by omega)]; exact m6 k hk
  · refine mLaw_mk (c := x.2.2) (by omega) l4 i2 (by rw [e0, i1]) (fun i y hy => ?_) (fun l e he => ?_)
    · obtain ⟨hi, -⟩ := List.getElem?_eq_some_iff.mp hy
      exact ⟨(e2 i hi).1.trans (co.2 i y hy).1, (e2 i hi).2.trans (co.2 i y hy).2⟩
    · obtain ⟨hl, -⟩ := List.getElem?_eq_some_iff.mp he
      obtain ⟨w1, w2, w3, w4⟩ := e1 l (by omega)
      obtain ⟨v1, v2, v3, v4⟩ := ln l e he
      exact ⟨w1.trans v1, w2.trans v2, w3.trans v3, w4.trans v4⟩
  · rw [q 117 (by omega)]; exact m8 k hk
theorem m_textN {a0 : Int32} (q : ¬ ((0 : Int32) ≤ a0 ∧ a0 ≤ 3)) (m : MTl h T) (k : ∀ h2, Mx h h2 0 (-1) false T → K (-1) h2) : gk_ci E (d + 12) jmo_text [.ref 112, .int a0] h K := by
  refine gk_ci_mk (x_mo_text (fe (fe (fe (fe (fe (fe (fe (s_in0 (d := d + 10) q (yT rfl (fe (zT rfl (k _ ?_)))))))))))))
  have F : ∀ f, ¬ f = 10 → (gk_hf (m6 h) 112 10 0).1 112 f = (m6 h).1 112 f := fun f hf => by rw [hf_f, if_neg (by omega)]
  have F2 : ∀ f, ¬ (f = 0 ∨ f = 10 ∨ f = 30 ∨ f = 31 ∨ f = 11 ∨ f = 24 ∨ f = 25) → (gk_hf (m6 h) 112 10 0).1 112 f = h.1 112 f := fun f hf => by
    rw [F f (by omega), m6_f, if_neg (by omega), if_neg (by omega), if_neg (by omega), if_neg (by omega), if_neg (by omega), if_neg (by omega)]
  show Mx h (gk_hf (m6 h) 112 10 0) 0 (-1) false T
  refine ⟨fr_tr (fr_mo m6_fr (fun k q => by unfold S_tm2; omega)) (fr_hf (by unfold S_tm2; omega)), ?_, ⟨?_, ?_⟩, ⟨F2 5 (by decide), F2 6 (by decide), F2 52 (by decide)⟩, fun _ => F2 3 (by decide), fun q => (by cases q), MTl_eq (fun k _ _ => rfl) (F2 32 (by decide)) (F2 34 (by decide)) (F2 36 (by decide)) m⟩
  · rw [hf_f, if_pos ⟨rfl, rfl⟩]
  · rw [F 30 (by decide), m6_f]; rfl
  · rw [F 31 (by decide), m6_f]; rfl
end TXM
