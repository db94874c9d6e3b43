/-! days, goes -/
noncomputable def dyS (th : Bool) (N : Nat) (s : gS) : Nat → Int32 × gS
  | 0 => (0, s)
  | i + 1 => ((dyS th N s i).1 + (dayC th N (dyS th N s i).2).1, dayS th N (dyS th N s i).2)
noncomputable def rgW (N n : Nat) (ws : Nat → gk_WV) (s : gS) : Nat → Nat × (Nat → gk_WV)
  | 0 => (n, ws)
  | i + 1 => (kpN (rgW N n ws s i).1, kpS (rgW N n ws s i).1 (rgW N n ws s i).2 (dyS false N s i).2.1)
theorem gd_dy {th : Bool} {N : Nat} {s : gS} (g : gd N s) : ∀ i, gd N (dyS th N s i).2 ∧ sm0 s (dyS th N s i).2 := by
  intro i
  induction i with
  | zero => exact ⟨g, sm0_rf⟩
  | succ i ih =>
    have := gd_day (th := th) ih.1
    exact ⟨this.1, sm0_tr ih.2 this.2⟩
theorem lc_days {E : gk_E} {d : Nat} (a0 : Int32) : lc_ok E (d + 10) InvX jdp_days jmo_days [.int a0] := by
  intro h hI
  have hI0 := hI
  obtain ⟨c, N, f, n, ws, rs, T, hrest, hN, hcN, cy, g, hc, hm, hr, hw, cs, ms⟩ := Inv_st hI
  have c0 : (0 : Int32).toNatClampNeg = 0 := by decide
  have e5 : h.1 1 5 = (wv h 1).1 5 := wv_f rfl (by decide)
  by_cases hb : ¬ (((1 : Int32) ≤ a0 ∧ a0 ≤ 60) ∧ (wv h 1).1 5 + a0 ≤ 9999)
  · refine ⟨fun r h1 => r = -1 ∧ h1 = h, fun K1 hK => ?_, fun r h1 hM K2 hK => ?_⟩
    · have kk := hK _ _ ⟨rfl, rfl⟩
      by_cases ha : (1 : Int32) ≤ a0 ∧ a0 ≤ 60
      · refine gk_ci_mk (x_dp_days (s_wi1 ha (yF (by decide) ?_)))
        rw [e5]
        exact yF (fun q => hb ⟨ha, q⟩) kk
      · exact gk_ci_mk (x_dp_days (s_wi0 ha (yT rfl kk)))
    · obtain ⟨er, eh⟩ := hM
      rw [er] at hK
      rw [eh]
      have kk := hK _ (Inv_Qs (Qs_t (x := 0)) hI0)
      by_cases ha : (1 : Int32) ≤ a0 ∧ a0 ≤ 60
      · refine gk_ci_mk (x_mo_days (s_in1 ha (yF (by decide) ⟨vpi (by decide), ?_⟩)))
        have : (gk_hf h 112 0 0).2.1 113 (0 : Int32).toNatClampNeg = (wv h 1).1 5 := (MW_0 ms.1).1
        rw [this]
        exact yF (fun q => hb ⟨ha, q⟩) kk
      · exact gk_ci_mk (x_mo_days (s_in0 ha (yT rfl kk)))
  · obtain ⟨ha, hd⟩ := Classical.not_not.mp hb
    obtain ⟨A, hA, eA⟩ := of05 (N := 60) (by decide) ⟨Int32.le_trans (by decide) ha.1, ha.2⟩
    refine ⟨fun r h1 => r = (dyS false N (wv h 1, T) A).1 ∧ (∃ f', cU h1 f' (rgW N n ws (wv h 1, T) A).1 (rgW N n ws (wv h 1, T) A).2) ∧ CS 1 h1 (dyS false N (wv h 1, T) A).2 ∧ fr (fun k => S_ring k ∨ SK1 k) h h1, fun K1 hK => ?_, fun r h1 hM K2 hK => ?_⟩
    · refine gk_ci_mk (x_dp_days (s_wi1 ha (yF (by decide) ?_)))
      rw [e5]
      refine yT hd (fe (fe ?_))
      refine lp_up (N := A) (fun i (u : gk_H) => g_dp_days_31 E (d + 9) (gk_qi K1) a0 (dyS false N (wv h 1, T) i).1 (nI i) u) (fun i u => (∃ f', cU u f' (rgW N n ws (wv h 1, T) i).1 (rgW N n ws (wv h 1, T) i).2) ∧ CS 1 u (dyS false N (wv h 1, T) i).2 ∧ fr (fun k => S_ring k ∨ SK1 k) h u) ?_ ?_ 0 h (Nat.zero_le _) ⟨⟨f, hc⟩, cs, fr_rf⟩
      · rintro i u hi ⟨⟨f', cu⟩, ci, fi⟩ ih
        have gi := (gd_dy (th := false) g i).1
        refine x_dp_days_31 (pk_le A i (fun q => by omega) (fun _ => S_keep (d := d + 6) cu fun f2 u2 cu2 f2' => ?_) (hx := eA))
        have c2 : CS 1 u2 (dyS false N (wv h 1, T) i).2 := CS_fr f2' (fun k h1 h2 q => by unfold S_ring at q; omega) (fun i hi q => by unfold S_ring at q; omega) ci
        refine s_ke_passDay_79 (d := d + 2) c2 gi fun u3 c3 f3 => fe (fe ?_)
        rw [nI_1]
        rw [ci.1] at cu2
        exact ih u3 ⟨⟨f2, cU_fr (S := SK1) (fun k hk q => by unfold S_ring at hk; unfold SK1 at q; omega) f3 cu2⟩, c3, fr_tr fi (fr_tr (fr_mo f2' (fun k q => Or.inl q)) (fr_mo f3 (fun k q => Or.inr q)))⟩
      · rintro u ⟨cu, ci, fi⟩
        exact x_dp_days_31 (pk_le A A (fun _ => hK _ _ ⟨rfl, cu, ci, fi⟩) (fun q => by omega) (hx := eA))
    · obtain ⟨er, ⟨f', cu⟩, c1, f1⟩ := hM
      rw [er] at hK
      have m1 : MS N false (gk_hf h1 112 0 0) (wv h 1, T) := MS_112 (fr_hf (by omega)) (fun i i0 _ => by rw [hf_f, if_neg (fun q => i0 q.2)]) (MS_fr f1 (fun k h1 h2 q => by unfold S_ring SK1 at q; omega) ms)
      have e2 : ∀ i, ¬ i = 0 → (gk_hf h1 112 0 0).1 112 i = h.1 112 i := fun i i0 => by
        rw [hf_f, if_neg (fun q => i0 q.2), (f1 112 (by unfold S_ring SK1; omega)).1]
      have mu1 : mU (gk_hf h1 112 0 0) n rs := mU_of (e2 3 (by decide)) (f1 114 (by unfold S_ring SK1; omega)).2.1 hm
      refine gk_ci_mk (x_mo_days (s_in1 ha (yF (by decide) ⟨vpi (by decide), ?_⟩)))
      have ed : (gk_hf h1 112 0 0).2.1 113 (0 : Int32).toNatClampNeg = (wv h 1).1 5 := (MW_0 m1.1).1
      rw [ed]
      refine yT hd (fe (fe ?_))
      refine lp_up (N := A) (fun i (u : gk_H) => g_mo_days_36 E (d + 9) (gk_qi K2) a0 (dyS false N (wv h 1, T) i).1 (nI i) u) (fun i u => (∃ rs', mU u (rgW N n ws (wv h 1, T) i).1 rs' ∧ ∀ j, j < (rgW N n ws (wv h 1, T) i).1 → wRel goodW c ((rgW N n ws (wv h 1, T) i).2 j) (rs' j)) ∧ MS N false u (dyS false N (wv h 1, T) i).2 ∧ fr (fun k => k = 112 ∨ k = 114 ∨ SM k) h1 u ∧ ∀ i, ¬ i = 0 → ¬ i = 3 → u.1 112 i = h.1 112 i) ?_ ?_ 0 _ (Nat.zero_le _) ⟨⟨rs, mu1, hr⟩, m1, fr_hf (by omega), fun i i0 _ => e2 i i0⟩
      · rintro i u hi ⟨⟨rs', mu, rel⟩, mi, fi, ei⟩ ih
        have gi := (gd_dy (th := false) g i).1
        have si := (gd_dy (th := false) g i).2
        refine x_mo_days_36 (pk_le A i (fun q => by omega) (fun _ => M_keep (d := d + 8) mu fun u2 mu2 e3 f2 => ?_) (hx := eA))
        have m2 : MS N false u2 (dyS false N (wv h 1, T) i).2 := MS_112 (fr_mo f2 (fun k q => q)) (fun i _ i3 => e3 i i3) mi
        refine s_mo_goesBy (d := d) m2 gi fun u3 m3 f3 => fe (fe ?_)
        rw [nI_1]
        have ec : ((dyS false N (wv h 1, T) i).2.1.1 0, (dyS false N (wv h 1, T) i).2.1.2.2.1) = c := Prod.ext (gi.1.1.2.trans hcN.symm) (si.1.trans cy)
        have wr : wRel goodW c (dyS false N (wv h 1, T) i).2.1 (rv u 113 0) := by
          have := mi.1.1
          rw [ec] at this
          exact this
        refine ih u3 ⟨⟨_, ⟨mu2.1, by rw [(f3 112 (by unfold SM; omega)).1]; exact mu2.2.1, fun j hj => ?_⟩, kp_rel rel wr⟩, m3, fr_tr fi (fr_tr (fr_mo f2 (fun k q => by unfold S_mkeep at q; omega)) (fr_mo f3 (fun k q => Or.inr (Or.inr q)))), fun i i0 i3 => ?_⟩
        · rw [← mu2.2.2 j hj]
          exact rv_eq fun j _ => by rw [(f3 114 (by unfold SM; omega)).2.1]
        · rw [(f3 112 (by unfold SM; omega)).1, e3 i i3]; exact ei i i0 i3
      · rintro u ⟨⟨rs', mu, rel⟩, mi, fi, ei⟩
        have gi := gd_dy (th := false) g A
        refine x_mo_days_36 (pk_le A A (fun _ => hK _ ?_) (fun q => by omega) (hx := eA))
        refine Inv_of hrest hN hcN cy gi.2 gi.1 (cU_fr (fun k hk q => by unfold S_ring at hk; unfold SM at q; omega) fi cu) mu rel (CS_fr fi (fun k h1 h2 q => by unfold SM at q; omega) (fun i hi q => by unfold SM at q; omega) c1) mi ?_ (same112_of ei)
        exact fr_tr (fr_mo f1 (fun k q => by unfold S_ring SK1 at q; unfold S_all free; omega)) (fr_mo fi (fun k q => by unfold SM at q; unfold S_all free; omega))
