/-! goes -/
theorem s_wo_dryOf_81 {E : gk_E} {d : Nat} {h : gk_H} {K : Int32 → gk_H → Prop} {n : Nat} {s : Int32} {g : Nat → Int32} (hn : n ≤ 10) (en : h.1 81 0 = nI n) (hg : ∀ p, p < n → nI (nb_onesL (h.2.2 82 p)) = g p) (hk : K (smI g s n) h) : gk_ci E (d + 2) jwo_dryOf [.ref 81, .int s] h K := by
  refine gk_ci_mk (x_wo_dryOf_81 (fe (fe ?_)))
  refine lp_up (N := n) (fun p (_ : Unit) => g_wo_dryOf_81_4 E (d + 1) (gk_qi K) s (smI g s p) (nI p) h) (fun _ _ => True) ?_ ?_ 0 () (Nat.zero_le _) trivial
  · intro p _ hp _ ih
    have ih := ih () trivial
    rw [smI] at ih
    refine x_wo_dryOf_81_4 (pk_le n p (fun q => by omega) (fun _ => ?_) (hx := en))
    rw [nb_has0 _ (by omega), nI_clamp (by omega)]
    refine ⟨fun q => fe ?_, fun q => ⟨vp_in_nI (by omega) (by decide), s_jl_bitCount (fe (fe ?_))⟩⟩
    · rw [if_neg (by rw [q]; decide)] at ih; rw [nI_1]; exact ih
    · rw [if_pos (by simpa using q)] at ih; rw [nI_1, hg p hp]; exact ih
  · intro _ _
    exact x_wo_dryOf_81_4 (pk_le n n (fun _ => hk) (fun q => by omega) (hx := en))
theorem s_mo_thinks {E : gk_E} {d : Nat} {h : gk_H} {K : gk_H → Prop} (k : ∀ h', fr (fun k => k = 112 ∨ k = 115) h h' → (∀ i, ¬ i = 5 → h'.1 112 i = h.1 112 i) → h'.1 112 5 = 1 → (∀ j, j < 131 → h'.2.1 115 j = h.2.1 113 j) → K h') : gk_cv E (d + 1) jmo_thinks [.ref 112] h K := by
  refine gk_cv_mk (x_mo_thinks (fe ?_))
  refine lp_up (N := 131) (fun j (u : gk_H) => g_mo_thinks_2 E d (gk_qv K) (nI j) u) (fun j u => fr (fun k => k = 115) h u ∧ ∀ i, i < j → u.2.1 115 i = h.2.1 113 i) ?_ ?_ 0 h (by decide) ⟨fr_rf, fun i hi => absurd hi (Nat.not_lt_zero _)⟩
  · rintro j u hj ⟨fu, hu⟩ ih
    refine x_mo_thinks_2 (pk_le 131 j (fun q => by omega) (fun _ => ⟨vp_in_nI (by omega) (by decide), vp_in_nI (by omega) (by decide), fe (fe ?_)⟩))
    rw [nI_1, nI_clamp (by omega), (fu 113 (by decide)).2.1]
    refine ih _ ⟨fr_tr fu (fr_ha rfl), fun i hi => ?_⟩
    rw [OW_set]
    by_cases z : i = j
    · rw [if_pos z, z]
    · rw [if_neg z]; exact hu i (by omega)
  · rintro u ⟨fu, hu⟩
    refine x_mo_thinks_2 (pk_le 131 131 (fun _ => ⟨Or.inr rfl, fe ?_⟩) (fun q => by omega))
    refine k _ (fr_tr (fr_mo fu (fun k q => Or.inr q)) (fr_hf (Or.inl rfl))) (fun i hi => ?_) ?_ hu
    · rw [hf_f, if_neg (fun q => hi q.2), (fu 112 (by decide)).1]
    · rw [hf_f, if_pos ⟨rfl, rfl⟩]
theorem s_mo_endsThought {E : gk_E} {d : Nat} {h : gk_H} {K : gk_H → Prop} (k : ∀ h', fr (fun k => k = 112 ∨ k = 113) h h' → (∀ i, ¬ i = 5 → h'.1 112 i = h.1 112 i) → h'.1 112 5 = 0 → (∀ j, j < 131 → h'.2.1 113 j = h.2.1 115 j) → K h') : gk_cv E (d + 1) jmo_endsThought [.ref 112] h K := by
  refine gk_cv_mk (x_mo_endsThought (fe ?_))
  refine lp_up (N := 131) (fun j (u : gk_H) => g_mo_endsThought_2 E d (gk_qv K) (nI j) u) (fun j u => fr (fun k => k = 113) h u ∧ ∀ i, i < j → u.2.1 113 i = h.2.1 115 i) ?_ ?_ 0 h (by decide) ⟨fr_rf, fun i hi => absurd hi (Nat.not_lt_zero _)⟩
  · rintro j u hj ⟨fu, hu⟩ ih
    refine x_mo_endsThought_2 (pk_le 131 j (fun q => by omega) (fun _ => ⟨vp_in_nI (by omega) (by decide), vp_in_nI (by omega) (by decide), fe (fe ?_)⟩))
    rw [nI_1, nI_clamp (by omega), (fu 115 (by decide)).2.1]
    refine ih _ ⟨fr_tr fu (fr_ha rfl), fun i hi => ?_⟩
    rw [OW_set]
    by_cases z : i = j
    · rw [if_pos z, z]
    · rw [if_neg z]; exact hu i (by omega)
  · rintro u ⟨fu, hu⟩
    refine x_mo_endsThought_2 (pk_le 131 131 (fun _ => ⟨Or.inl rfl, fe ?_⟩) (fun q => by omega))
    refine k _ (fr_tr (fr_mo fu (fun k q => Or.inr q)) (fr_hf (Or.inl rfl))) (fun i hi => ?_) ?_ hu
    · rw [hf_f, if_neg (fun q => hi q.2), (fu 112 (by decide)).1]
    · rw [hf_f, if_pos ⟨rfl, rfl⟩]
def goA (w : gk_WV) (N : Nat) (a : Int32) : Int32 := if a = 0 then w.1 3 else if a = 1 then w.1 4 else smI (fun p => nI (nb_onesL (w.2.1 p))) (w.1 1) N
theorem lc_goes {E : gk_E} {d : Nat} (a0 a1 : Int32) : lc_ok E (d + 10) InvX jdp_goes jmo_goes [.int a0, .int a1] := by
  intro h hI
  have hI0 := hI
  obtain ⟨c, N, f, n, ws, rs, T, hrest, hN, hcN, cy, g, hc, hm, hr, hw, cs, ms⟩ := Inv_st hI
  by_cases hb : ¬ (((1 : Int32) ≤ a0 ∧ a0 ≤ 60) ∧ ((0 : Int32) ≤ a1 ∧ a1 ≤ 2))
  · refine ⟨fun r h1 => r = -1 ∧ h1 = h, fun K1 hK => ?_, fun r h1 hM K2 hK => ?_⟩
    · have kk := hK _ _ ⟨rfl, rfl⟩
      by_cases ha : (1 : Int32) ≤ a0 ∧ a0 ≤ 60
      · exact gk_ci_mk (x_dp_goes (s_wi1 ha (yF (by decide) (s_wi0 (fun q => hb ⟨ha, q⟩) (zT rfl kk)))))
      · exact gk_ci_mk (x_dp_goes (s_wi0 ha (yT rfl kk)))
    · obtain ⟨er, eh⟩ := hM
      rw [er] at hK
      rw [eh]
      have kk := hK _ (Inv_Qs (Qs_t (x := 0)) hI0)
      by_cases ha : (1 : Int32) ≤ a0 ∧ a0 ≤ 60
      · exact gk_ci_mk (x_mo_goes (s_in1 ha (yF (by decide) (s_in0 (fun q => hb ⟨ha, q⟩) (zT rfl kk)))))
      · exact gk_ci_mk (x_mo_goes (s_in0 ha (yT rfl kk)))
  · obtain ⟨ha, hd⟩ := Classical.not_not.mp hb
    obtain ⟨A, hA, eA⟩ := of05 (N := 60) (by decide) ⟨Int32.le_trans (by decide) ha.1, ha.2⟩
    refine ⟨fun r h1 => r = goA (dyS true N (wv h 1, T) A).2.1 N a1 ∧ CS 81 h1 (dyS true N (wv h 1, T) A).2 ∧ fr SK81 h h1, fun K1 hK => ?_, fun r h1 hM K2 hK => ?_⟩
    · refine gk_ci_mk (x_dp_goes (s_wi1 ha (yF (by decide) (s_wi1 hd (zF (by decide) (s_wo_copy_81_1 (d := d + 7) (fe ?_)))))))
      have F0 : fr SK81 h (hv_copy h 81 1) := fr_copy (by omega) (fun i hi => by unfold SK81; omega)
      have w0 : wv (hv_copy h 81 1) 81 = wv h 1 := wv_copy_self (by omega)
      refine lp_up (N := A) (fun i (u : gk_H) => g_dp_goes_34 E (d + 9) (gk_qi K1) a0 a1 (nI i) u) (fun i u => CS 81 u (dyS true N (wv h 1, T) i).2 ∧ fr SK81 h u) ?_ ?_ 0 _ (Nat.zero_le _) ⟨⟨w0, CT_fr F0 (fun k h1 h2 q => by unfold SK81 at q; omega) cs.2⟩, F0⟩
      · rintro i u hi ⟨ci, fi⟩ ih
        refine x_dp_goes_34 (pk_le A i (fun q => by omega) (fun _ => s_ke_passDay_87 (d := d + 2) ci (gd_dy (th := true) g i).1 fun u3 c3 f3 => fe ?_) (hx := eA))
        rw [nI_1]
        exact ih u3 ⟨c3, fr_tr fi f3⟩
      · rintro u ⟨ci, fi⟩
        have gi := (gd_dy (th := true) g A).1
        have kk := fun x (e : x = goA (dyS true N (wv h 1, T) A).2.1 N a1) => hK x u ⟨e, ci, fi⟩
        refine x_dp_goes_34 (pk_le A A (fun _ => ⟨fun q => kk _ ?_, fun q0 => ⟨fun q => kk _ ?_, fun q1 => ?_⟩⟩) (fun q => by omega) (hx := eA))
        · unfold goA; rw [if_pos q]; exact wv_f ci.1 (by decide)
        · unfold goA; rw [if_neg q0, if_pos q]; exact wv_f ci.1 (by decide)
        · refine gk_ci_mk (x_wo_dryOfOwned (s_wo_dryOf_81 (d := d + 6) (g := fun p => nI (nb_onesL ((dyS true N (wv h 1, T) A).2.1.2.1 p))) hN ((wv_f ci.1 (by decide)).trans gi.1.1.2) (fun p hp => ?_) (kk _ ?_)))
          · have : u.2.2 82 p = (dyS true N (wv h 1, T) A).2.1.2.1 p := wv_d (a := 81) ci.1 (by omega)
            rw [this]
          · unfold goA; rw [if_neg q0, if_neg q1, wv_f ci.1 (s := 1) (by decide)]
    · obtain ⟨er, c1, f1⟩ := hM
      rw [er] at hK
      have m1 : MS N false (gk_hf h1 112 0 0) (wv h 1, T) := MS_112 (fr_hf (by omega)) (fun i i0 _ => by rw [hf_f, if_neg (fun q => i0 q.2)]) (MS_fr f1 (fun k h1 h2 q => by unfold SK81 at q; omega) ms)
      have e1 : ∀ i, ¬ i = 0 → (gk_hf h1 112 0 0).1 112 i = h.1 112 i := fun i i0 => by
        rw [hf_f, if_neg (fun q => i0 q.2), (f1 112 (by unfold SK81; omega)).1]
      refine gk_ci_mk (x_mo_goes (s_in1 ha (yF (by decide) (s_in1 hd (zF (by decide) (s_mo_thinks (d := d + 8) fun u1 g1 e2 e25 e115 => fe ?_))))))
      have F1 : fr (fun k => k = 112 ∨ k = 115) h1 u1 := fr_tr (fr_hf (Or.inl rfl)) g1
      have m2 : MS N true u1 (wv h 1, T) := ⟨MWr_fr g1 (by omega) (by omega) m1.1, MTl_eq (fun k h1 h2 => (g1 k (by omega)).2.1) (e2 _ (by decide)) (e2 _ (by decide)) (e2 _ (by decide)) m1.2.1, e25, (e2 6 (by decide)).trans m1.2.2.2⟩
      have w115 : ∀ j, j < 131 → u1.2.1 115 j = h.2.1 113 j := fun j hj => by
        rw [e115 j hj]
        show h1.2.1 113 j = _
        rw [(f1 113 (by unfold SK81; omega)).2.1]
      have e3 : ∀ i, ¬ i = 0 → ¬ i = 5 → u1.1 112 i = h.1 112 i := fun i i0 i5 => (e2 i i5).trans (e1 i i0)
      refine lp_up (N := A) (fun i (u : gk_H) => g_mo_goes_34 E (d + 9) (gk_qi K2) a0 a1 (nI i) u) (fun i u => MS N true u (dyS true N (wv h 1, T) i).2 ∧ fr SM u1 u) ?_ ?_ 0 u1 (Nat.zero_le _) ⟨m2, fr_rf⟩
      · rintro i u hi ⟨mi, fi⟩ ih
        refine x_mo_goes_34 (pk_le A i (fun q => by omega) (fun _ => s_mo_goesBy (d := d) mi (gd_dy (th := true) g i).1 fun u3 m3 f3 => fe ?_) (hx := eA))
        rw [nI_1]
        exact ih u3 ⟨m3, fr_tr fi f3⟩
      · rintro u ⟨mi, fi⟩
        have gi := (gd_dy (th := true) g A).1
        refine x_mo_goes_34 (pk_le A A (fun _ => fe (fe ?_)) (fun q => by omega) (hx := eA))
        have fin : ∀ x, x = goA (dyS true N (wv h 1, T) A).2.1 N a1 → gk_cv E (d + 9) jmo_endsThought [.ref 112] u (fun h_13 => gk_qi K2 (some (.int x)) h_13) := by
          intro x ex
          refine s_mo_endsThought (d := d + 8) fun u2 g2 e4 e45 e113 => ?_
          rw [ex]
          refine hK _ ?_
          have G : fr (fun k => k = 112 ∨ k = 115 ∨ SM k) h1 u2 := fr_tr (fr_mo F1 (fun k q => by omega)) (fr_tr (fr_mo fi (fun k q => Or.inr (Or.inr q))) (fr_mo g2 (fun k q => by unfold SM; omega)))
          have e5 : ∀ i, ¬ i = 0 → ¬ i = 5 → u2.1 112 i = h.1 112 i := fun i i0 i5 => by
            rw [e4 i i5, (fi 112 (by unfold SM; omega)).1]; exact e3 i i0 i5
          have i50 : h.1 112 5 = 0 := hrest.2.2.2.1
          have er2 : rv u2 113 0 = rv h 113 0 := rv_eq fun j hj => by
            rw [Nat.zero_add, e113 j hj, (fi 115 (by unfold SM; omega)).2.1, w115 j hj]
          have ew : wv u2 1 = wv h 1 := by
            rw [wv_fr G (fun i hi q => by unfold SM at q; omega), wv_fr f1 (fun i hi q => by unfold SK81 at q; omega)]
          refine ⟨c, f, n, ws, rs, cU_fr (fun k hk q => by unfold S_ring at hk; unfold SM at q; omega) G (cU_fr (fun k hk q => by unfold S_ring at hk; unfold SK81 at q; omega) f1 hc), mU_of (e5 3 (by decide) (by decide)) ((G 114 (by unfold SM; omega)).2.1.trans (f1 114 (by unfold SK81; omega)).2.1) hm, hr, by rw [ew, er2]; exact hw, ?_⟩
          refine Rest_T (S := fun k => SK81 k ∨ k = 112 ∨ k = 115 ∨ SM k) (fun k q => by unfold SK81 SM at q; unfold S_all free; omega) (fr_tr (fr_mo f1 (fun k q => Or.inl q)) (fr_mo G (fun k q => Or.inr q))) ?_ hrest hN hcN gi.2 (CT_fr G (fun k h1 h2 q => by unfold SM at q; omega) c1.2) (MTl_eq (fun k h1 h2 => (g2 k (by omega)).2.1) (e4 _ (by decide)) (e4 _ (by decide)) (e4 _ (by decide)) mi.2.1)
          exact ⟨e45.trans i50.symm, e5 _ (by decide) (by decide), e5 _ (by decide) (by decide), e5 _ (by decide) (by decide), e5 _ (by decide) (by decide), e5 _ (by decide) (by decide), e5 _ (by decide) (by decide), e5 _ (by decide) (by decide), e5 _ (by decide) (by decide)⟩
        have c3 : (3 : Int32).toNatClampNeg = 3 := by decide
        have c4 : (4 : Int32).toNatClampNeg = 4 := by decide
        refine lp_up (N := N) (fun p (_ : Unit) => g_mo_goes_55 E (d + 9) (gk_qi K2) a1 (smI (fun p => nI (nb_onesL ((dyS true N (wv h 1, T) A).2.1.2.1 p))) ((dyS true N (wv h 1, T) A).2.1.1 1) p) (nI p) u) (fun _ _ => True) ?_ ?_ 0 () (Nat.zero_le _) trivial
        · intro p _ hp _ ih
          have ih := ih () trivial
          rw [smI] at ih
          refine x_mo_goes_55 (pk_le N p (fun q => by omega) (fun _ => ?_) (hx := mi.2.2.2))
          rw [show (21 : Int32) + nI p = nI (21 + p) from nI_add 21 p, nI_clamp (n := 21 + p) (by omega), (MW_p mi.1 (p := p) (by omega)).2.1, nI_1]
          refine ⟨vp_in_nI (by omega) (by decide), bsel1 (fun b => fe ?_) (fun b => s_mo_dryOf (by omega) (MW_p mi.1 (p := p) (by omega)).2.2.2.2 (fe (fe ?_)))⟩
          · rw [if_neg (by rw [b]; decide)] at ih; exact ih
          · rw [if_pos b] at ih; exact ih
        · intro _ _
          refine x_mo_goes_55 (pk_le N N (fun _ => ?_) (fun q => by omega) (hx := mi.2.2.2))
          rw [c3, c4, (MW_0 mi.1).2.2.2.1, (MW_0 mi.1).2.2.2.2]
          refine ⟨fun q0 => ⟨fun q1 => fe (fin _ ?_), fun q1 => ⟨vpi (by decide), fe (fin _ ?_)⟩⟩, fun q0 => ⟨vpi (by decide), fe (fin _ ?_)⟩⟩
          · unfold goA; rw [if_neg q0, if_neg q1]
          · unfold goA; rw [if_neg q0, if_pos q1]
          · unfold goA; rw [if_pos q0]
