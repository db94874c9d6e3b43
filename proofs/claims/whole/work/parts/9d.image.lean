/-! image -/
theorem p600 {d : Nat} : 1 ≤ d + 1 ∧ ¬ (0 : Int32) < 0 ∧ ¬ (0 : Int32) < 0 ∧ ¬ (600 : Int32) < 0 ∧ (0 : Int32).toNatClampNeg + (600 : Int32).toNatClampNeg ≤ 600 ∧ (0 : Int32).toNatClampNeg + (600 : Int32).toNatClampNeg ≤ 600 := ⟨by omega, by decide, by decide, by decide, by decide, by decide⟩
theorem lc_image1 {E : gk_E} {d : Nat} : lc_ok E (d + 6) InvX jdp_image jmo_image [.int 1] := by
  intro h hI
  obtain ⟨c, f, n, ws, rs, hc, hm, hr, hw, hrest⟩ := hI
  obtain ⟨⟨N, T, ⟨l1, l2, l3⟩, l4, l5, l6, l7⟩, ⟨tn, t1, t2, t3, t4⟩, ⟨f1, f2⟩, i5, wr, im⟩ := hrest
  have c0 : (0 : Int32).toNatClampNeg = 0 := by decide
  have c600 : (600 : Int32).toNatClampNeg = 600 := by decide
  have h16 : T.1.2.1 ≤ 16 := l5.1.2.1
  refine ⟨fun r h1 => r = 1 ∧ fr (fun k => k = 0 ∨ (93 ≤ k ∧ k ≤ 111)) h h1 ∧ wv h1 93 = wv h 1 ∧ CT h1 99 111 T ∧ h1.1 0 15 = 1, fun K1 hK => ?_, fun r h1 hM K2 hK => ?_⟩
  · refine gk_ci_mk (x_dp_image (yF (by decide) (s_wo_copy_93_1 (d := d + 3) ?_)))
    have g1 : fr (fun k => 93 ≤ k ∧ k ≤ 98) h (hv_copy h 93 1) := fr_copy (by omega) (fun i hi => by omega)
    have w1 : wv (hv_copy h 93 1) 93 = wv h 1 := wv_copy_self (by omega)
    have ct1 : CT (hv_copy h 93 1) 7 19 T := CT_fr g1 (fun k h1 h2 q => by omega) l6
    refine s_tx_copyAll_99_7 (d := d + 1) h16 ct1 fun h2 f2 c2 => ⟨p600, ?_⟩
    rw [c0, c600]
    refine fe ⟨Or.inr rfl, fe ⟨Or.inr rfl, hK _ _ ⟨rfl, ?_, ?_, ?_, ?_⟩⟩⟩
    · exact fr_tr (fr_mo g1 (fun k q => by omega)) (fr_tr (fr_mo f2 (fun k q => by omega)) (fr_tr (fr_hc (by omega)) (fr_hf (by omega))))
    · have G : fr (fun k => k = 0 ∨ (100 ≤ k ∧ k ≤ 111)) (hv_copy h 93 1) (gk_hf (gk_hc h2 111 19 0 0 600) 0 15 1) := fr_tr (fr_mo f2 (fun k q => by omega)) (fr_tr (fr_hc (by omega)) (fr_hf (by omega)))
      rw [wv_fr G (fun i hi q => by omega)]; exact w1
    · refine c2 _ 111 (fr_tr (fr_hc (by omega)) (fr_hf (by omega))) (fun j hj => ?_)
      show (gk_hc h2 111 19 0 0 600).2.1 111 j = _
      rw [hc_e hj, (f2 19 (by omega)).2.1]
    · rw [hf_f, if_pos ⟨rfl, rfl⟩]
  · obtain ⟨er, g1, w93, ct, e15⟩ := hM
    rw [er] at hK
    refine gk_ci_mk (x_mo_image (fe (zF (by decide) ⟨Or.inr rfl, fe ⟨Or.inr rfl, fe (fe (fe ?_))⟩⟩)))
    have b0 : ∀ s, ¬ s = 0 → ¬ s = 51 → ¬ s = 52 → ¬ s = 53 → (gk_hf (gk_hf (gk_hf (gk_hf h1 112 0 0) 112 51 1) 112 52 1) 112 53 0).1 112 s = h.1 112 s := fun s s0 s51 s52 s53 => by
      rw [hf_f, if_neg (fun q => s53 q.2), hf_f, if_neg (fun q => s52 q.2), hf_f, if_neg (fun q => s51 q.2), hf_f, if_neg (fun q => s0 q.2), (g1 112 (by omega)).1]
    have b52 : (gk_hf (gk_hf (gk_hf (gk_hf h1 112 0 0) 112 51 1) 112 52 1) 112 53 0).1 112 52 = 1 := by rw [hf_f, if_neg (by decide), hf_f, if_pos ⟨rfl, rfl⟩]
    have b51 : (gk_hf (gk_hf (gk_hf (gk_hf h1 112 0 0) 112 51 1) 112 52 1) 112 53 0).1 112 51 = 1 := by rw [hf_f, if_neg (by decide), hf_f, if_neg (by decide), hf_f, if_pos ⟨rfl, rfl⟩]
    have b53 : (gk_hf (gk_hf (gk_hf (gk_hf h1 112 0 0) 112 51 1) 112 52 1) 112 53 0).1 112 53 = nI 0 := by rw [hf_f, if_pos ⟨rfl, rfl⟩]; rfl
    have bF : fr (fun k => k = 112) h1 (gk_hf (gk_hf (gk_hf (gk_hf h1 112 0 0) 112 51 1) 112 52 1) 112 53 0) := fr_tr (fr_tr (fr_tr (fr_hf rfl) (fr_hf rfl)) (fr_hf rfl)) (fr_hf rfl)
    have b2 : (gk_hf (gk_hf (gk_hf (gk_hf h1 112 0 0) 112 51 1) 112 52 1) 112 53 0).2.1 = h1.2.1 := rfl
    revert b0 b52 b51 b53 bF b2
    generalize gk_hf (gk_hf (gk_hf (gk_hf h1 112 0 0) 112 51 1) 112 52 1) 112 53 0 = u0
    intro b0 b52 b51 b53 bF b2
    refine g_image (d := d + 3) (tk := true) (V := LVf u0) (h := u0) ⟨⟨b53, b51⟩, fun j hj => absurd hj (Nat.not_lt_zero _), fun q => (by cases q), fun _ => ⟨fun _ _ => rfl, fun _ _ => rfl⟩⟩ (fun _ => LVf_ok u0) fun u kp lv F e => ⟨fun _ => hK _ ?_, fun q => absurd q (by decide)⟩
    obtain ⟨-, kv, -, kt⟩ := kp
    obtain ⟨ka, kf⟩ := kt rfl
    have A : ∀ k, ¬ k = 144 → ¬ (93 ≤ k ∧ k ≤ 111) → ¬ k = 0 → u.2.1 k = h.2.1 k := fun k h1 h2 h3 => by rw [ka k h1, b2, (g1 k (by omega)).2.1]
    have B : ∀ k, k < 112 ∨ k = 114 ∨ k = 115 ∨ k = 118 ∨ k = 119 → eqc h1 u k := fun k hk => ⟨(F k (by omega)).1.trans (bF k (by omega)).1, (F k (by omega)).2.1.trans (bF k (by omega)).2.1, (F k (by omega)).2.2.trans (bF k (by omega)).2.2⟩
    have B2 : ∀ k, (0 < k ∧ k < 93) → eqc h u k := fun k hk => ⟨(B k (by omega)).1.trans (g1 k (by omega)).1, (B k (by omega)).2.1.trans (g1 k (by omega)).2.1, (B k (by omega)).2.2.trans (g1 k (by omega)).2.2⟩
    have C : ∀ s, ¬ s = 0 → ¬ s = 51 → ¬ s = 52 → ¬ s = 53 → u.1 112 s = h.1 112 s := fun s s0 s51 s52 s53 => (kf s s53).trans (b0 s s0 s51 s52 s53)
    have ww : wv u 1 = wv h 1 := wv_fr (S := fun k => ¬ (0 < k ∧ k < 93)) (fun k hk => B2 k (Classical.not_not.mp hk)) (fun i hi q => q (by omega))
    have rr : rv u 113 0 = rv h 113 0 := rv_eq fun j _ => by rw [A 113 (by decide) (by omega) (by decide)]
    have lv' : LVs u (u.2.1 144) := LVs_V (fun j hj => kv j hj) lv
    have mt : MTl u T := MTl_eq (fun k h1 h2 => A k (by omega) (by omega) (by omega)) (C _ (by decide) (by decide) (by decide) (by decide)) (C _ (by decide) (by decide) (by decide) (by decide)) (C _ (by decide) (by decide) (by decide) (by decide)) l7
    refine ⟨c, f, n, ws, rs, cU_fr (S := fun k => ¬ (0 < k ∧ k < 93)) (fun k hk q => ?_) (fun k hk => B2 k (Classical.not_not.mp hk)) hc, mU_of (C 3 (by decide) (by decide) (by decide) (by decide)) (A 114 (by decide) (by omega) (by decide)) hm, hr, by rw [ww, rr]; exact hw, ⟨N, T, ⟨l1, l2, by rw [C 6 (by decide) (by decide) (by decide) (by decide)]; exact l3⟩, by rw [A 116 (by decide) (by omega) (by decide)]; exact l4, l5, CT_eq (fun i h1 h2 => B2 _ (by omega)) (B2 19 (by omega)).2.1 l6, mt⟩, ⟨tn, t1, by rw [(B2 58 (by omega)).1]; exact t2, by rw [C 10 (by decide) (by decide) (by decide) (by decide)]; exact t3, by rw [(B2 59 (by omega)).2.1, A 118 (by decide) (by omega) (by decide)]; exact t4⟩, by rw [(B2 63 (by omega)).1, C 30 (by decide) (by decide) (by decide) (by decide), C 31 (by decide) (by decide) (by decide) (by decide)]; exact ⟨f1, f2⟩, by rw [C 5 (by decide) (by decide) (by decide) (by decide)]; exact i5, by unfold wordsR; rw [A 119 (by decide) (by omega) (by decide)]; exact wr, Or.inr ⟨⟨by rw [(B 0 (by omega)).1]; exact e15, (kf 52 (by decide)).trans b52⟩, N, T, c, ⟨l1, l2, ?_⟩, fun p hp => ?_, l5, CT_eq (fun i h1 h2 => B _ (by omega)) (B 111 (by omega)).2.1 ct, MT_li h16 lv' mt, ?_⟩⟩
    · unfold S_ring at hk; omega
    · rw [← lv'.2.1.1.1, C 6 (by decide) (by decide) (by decide) (by decide)]; exact l3
    · rw [← (lv'.2.1.2.1 p hp).1, A 116 (by decide) (by omega) (by decide)]; exact l4 p hp
    · have w2 : wv u 93 = wv h 1 := by
        rw [wv_fr (S := fun k => ¬ (k < 112)) (h := h1) (fun k hk => B k (by omega)) (fun i hi q => q (by omega))]; exact w93
      have r2 : rv u 144 0 = rv h 113 0 := by
        rw [← rr]
        exact rv_eq fun j hj => by rw [Nat.zero_add]; exact (lv'.1 j hj).symm
      rw [w2, r2]; exact hw
theorem lc_image0 {E : gk_E} {d : Nat} : lc_ok E (d + 6) InvX jdp_image jmo_image [.int 0] := by
  intro h hI
  have hI0 := hI
  obtain ⟨c, f, n, ws, rs, hc, hm, hr, hw, hrest⟩ := hI
  obtain ⟨-, ⟨tn, t1, t2, t3, t4⟩, ⟨f1, f2⟩, i5, wr, im⟩ := hrest
  have c0 : (0 : Int32).toNatClampNeg = 0 := by decide
  have c600 : (600 : Int32).toNatClampNeg = 600 := by decide
  rcases im with ⟨i1, i2⟩ | ⟨⟨i1, i2⟩, N, T, c', ⟨l1, l2, l3⟩, l4, l5, l6, l7, l8⟩
  · refine ⟨fun r h1 => r = 0 ∧ h1 = h, fun K1 hK => ?_, fun r h1 hM K2 hK => ?_⟩
    · exact gk_ci_mk (x_dp_image (yT rfl (zT i1 ⟨Or.inl rfl, hK _ _ ⟨rfl, rfl⟩⟩)))
    · obtain ⟨er, eh⟩ := hM
      rw [er] at hK
      rw [eh]
      exact gk_ci_mk (x_mo_image (fe (zT rfl (zT (by rw [hf_f, if_neg (by decide)]; exact i2) ⟨Or.inl rfl, hK _ (Inv_Qs Qs_t hI0)⟩))))
  · have h16 : T.1.2.1 ≤ 16 := l5.1.2.1
    refine ⟨fun r h1 => r = 1 ∧ fr (fun k => (1 ≤ k ∧ k ≤ 6) ∨ (8 ≤ k ∧ k ≤ 20)) h h1 ∧ wv h1 1 = wv h 93 ∧ CT h1 7 19 T ∧ h1.1 20 2 = 0 ∧ h1.1 20 1 = h.1 20 1, fun K1 hK => ?_, fun r h1 hM K2 hK => ?_⟩
    · refine gk_ci_mk (x_dp_image (yT rfl (zF (by rw [i1]; decide) (s_wo_copy_1_93 (d := d + 3) ?_))))
      have g1 : fr (fun k => 1 ≤ k ∧ k ≤ 6) h (hv_copy h 1 93) := fr_copy (by omega) (fun i hi => by omega)
      have w1 : wv (hv_copy h 1 93) 1 = wv h 93 := wv_copy_self (by omega)
      have ct1 : CT (hv_copy h 1 93) 99 111 T := CT_eq (fun i h1 h2 => g1 _ (by omega)) (g1 111 (by omega)).2.1 l6
      refine s_tx_copyAll_7_99 (d := d + 1) h16 ct1 fun h2 f2 c2 => ⟨p600, ?_⟩
      rw [c0, c600]
      refine fe (s_ps_forget ⟨Or.inr rfl, hK _ _ ⟨rfl, ?_, ?_, ?_, ?_, ?_⟩⟩)
      · exact fr_tr (fr_mo g1 (fun k q => by omega)) (fr_tr (fr_mo f2 (fun k q => by omega)) (fr_tr (fr_hc (by omega)) (fr_hf (by omega))))
      · have G : fr (fun k => 8 ≤ k ∧ k ≤ 20) (hv_copy h 1 93) (gk_hf (gk_hc h2 19 111 0 0 600) 20 2 0) := fr_tr (fr_mo f2 (fun k q => by omega)) (fr_tr (fr_hc (by omega)) (fr_hf (by omega)))
        rw [wv_fr G (fun i hi q => by omega)]; exact w1
      · refine c2 _ 19 (fr_tr (fr_hc (by omega)) (fr_hf (by omega))) (fun j hj => ?_)
        show (gk_hc h2 19 111 0 0 600).2.1 19 j = _
        rw [hc_e hj, (f2 111 (by omega)).2.1]
      · rw [hf_f, if_pos ⟨rfl, rfl⟩]
      · rw [hf_f, if_neg (by decide), hc_1, (f2 20 (by omega)).1, (g1 20 (by omega)).1]
    · obtain ⟨er, g1, w1, ct, e2, e1⟩ := hM
      rw [er] at hK
      have e52 : (gk_hf h1 112 0 0).1 112 52 = 1 := by rw [hf_f, if_neg (by decide), (g1 112 (by omega)).1]; exact i2
      refine gk_ci_mk (x_mo_image (fe (zT rfl (zF (by rw [e52]; decide) ⟨Or.inl rfl, fe ⟨Or.inr rfl, fe (fe (fe ?_))⟩⟩))))
      have b0 : ∀ s, ¬ s = 0 → ¬ s = 51 → ¬ s = 52 → ¬ s = 53 → (gk_hf (gk_hf (gk_hf (gk_hf h1 112 0 0) 112 51 0) 112 52 1) 112 53 0).1 112 s = h.1 112 s := fun s s0 s51 s52 s53 => by
        rw [hf_f, if_neg (fun q => s53 q.2), hf_f, if_neg (fun q => s52 q.2), hf_f, if_neg (fun q => s51 q.2), hf_f, if_neg (fun q => s0 q.2), (g1 112 (by omega)).1]
      have b52 : (gk_hf (gk_hf (gk_hf (gk_hf h1 112 0 0) 112 51 0) 112 52 1) 112 53 0).1 112 52 = 1 := by rw [hf_f, if_neg (by decide), hf_f, if_pos ⟨rfl, rfl⟩]
      have b51 : (gk_hf (gk_hf (gk_hf (gk_hf h1 112 0 0) 112 51 0) 112 52 1) 112 53 0).1 112 51 = 0 := by rw [hf_f, if_neg (by decide), hf_f, if_neg (by decide), hf_f, if_pos ⟨rfl, rfl⟩]
      have b53 : (gk_hf (gk_hf (gk_hf (gk_hf h1 112 0 0) 112 51 0) 112 52 1) 112 53 0).1 112 53 = nI 0 := by rw [hf_f, if_pos ⟨rfl, rfl⟩]; rfl
      have bF : fr (fun k => k = 112) h1 (gk_hf (gk_hf (gk_hf (gk_hf h1 112 0 0) 112 51 0) 112 52 1) 112 53 0) := fr_tr (fr_tr (fr_tr (fr_hf rfl) (fr_hf rfl)) (fr_hf rfl)) (fr_hf rfl)
      have b2 : (gk_hf (gk_hf (gk_hf (gk_hf h1 112 0 0) 112 51 0) 112 52 1) 112 53 0).2.1 = h1.2.1 := rfl
      revert b0 b52 b51 b53 bF b2
      generalize gk_hf (gk_hf (gk_hf (gk_hf h1 112 0 0) 112 51 0) 112 52 1) 112 53 0 = u0
      intro b0 b52 b51 b53 bF b2
      refine g_image (d := d + 3) (tk := false) (V := u0.2.1 144) (h := u0) ⟨⟨b53, b51⟩, fun j hj => absurd hj (Nat.not_lt_zero _), fun _ _ => rfl, fun q => (by cases q)⟩ (fun q => (by cases q)) fun u kp lv F e => ⟨fun q => absurd rfl q, fun _ => hK _ ?_⟩
      obtain ⟨-, -, kv, -⟩ := kp
      have e144 : u.2.1 144 = h.2.1 144 := by
        refine (funext (kv rfl)).trans ?_
        rw [b2, (g1 144 (by omega)).2.1]
      have lv' : LVs u (u.2.1 144) := LVs_V (fun j hj => kv rfl j) lv
      have H3 : fr (fun k => k = 112) u (gk_hf u 112 3 0) := fr_hf rfl
      have B : ∀ k, k < 112 ∨ k = 114 ∨ k = 115 ∨ k = 118 ∨ k = 119 → eqc h1 (gk_hf u 112 3 0) k := fun k hk => ⟨(H3 k (by omega)).1.trans ((F k (by omega)).1.trans (bF k (by omega)).1), (F k (by omega)).2.1.trans (bF k (by omega)).2.1, (F k (by omega)).2.2.trans (bF k (by omega)).2.2⟩
      have B2 : ∀ k, k = 0 ∨ (21 ≤ k ∧ k < 112) ∨ k = 118 ∨ k = 119 → eqc h (gk_hf u 112 3 0) k := fun k hk => ⟨(B k (by omega)).1.trans (g1 k (by omega)).1, (B k (by omega)).2.1.trans (g1 k (by omega)).2.1, (B k (by omega)).2.2.trans (g1 k (by omega)).2.2⟩
      have C : ∀ s, ¬ s = 0 → ¬ s = 3 → ¬ s = 51 → ¬ s = 52 → ¬ s = 53 → ¬ s = 6 → ¬ s = 32 → ¬ s = 34 → ¬ s = 36 → (gk_hf u 112 3 0).1 112 s = h.1 112 s := fun s s0 s3 s51 s52 s53 s6 s32 s34 s36 => by
        rw [hf_f, if_neg (fun q => s3 q.2), e s s53 s6 s32 s34 s36]; exact b0 s s0 s51 s52 s53
      have mi : MTi u T := by unfold MTi at *; rw [e144]; exact l7
      have mt : MTl (gk_hf u 112 3 0) T := MTl_eq (fun k h1 h2 => rfl) (by rw [hf_f, if_neg (by decide)]) (by rw [hf_f, if_neg (by decide)]) (by rw [hf_f, if_neg (by decide)]) (MT_il h16 lv' mi)
      have ww : wv (gk_hf u 112 3 0) 1 = wv h 93 := by
        rw [wv_fr (S := fun k => ¬ (k < 112)) (h := h1) (fun k hk => B k (by omega)) (fun i hi q => q (by omega))]; exact w1
      have rr : rv (gk_hf u 112 3 0) 113 0 = rv h 144 0 := rv_eq fun j hj => by
        rw [Nat.zero_add]
        show u.2.1 113 j = _
        rw [lv'.1 j hj, e144]
      refine inv_new hc.1 (by rw [(B 20 (by omega)).1, e1]; exact hc.2.2.1) (by rw [(B 20 (by omega)).1]; exact e2) (by rw [hf_f, if_pos ⟨rfl, rfl⟩]; rfl) (c := c') (by rw [ww, rr]; exact l8) ?_
      have e6 : (gk_hf u 112 3 0).1 112 6 = nI N := by rw [hf_f, if_neg (by decide), lv'.2.1.1.1, e144]; exact l3
      have e116 : ∀ p, p < 10 → (gk_hf u 112 3 0).2.1 116 p = c'.2 p := fun p hp => by
        show u.2.1 116 p = _
        rw [(lv'.2.1.2.1 p hp).1, e144]; exact l4 p hp
      refine ⟨⟨N, T, ⟨l1, l2, e6⟩, e116, l5, CT_eq (fun i h1 h2 => B _ (by omega)) (B 19 (by omega)).2.1 ct, mt⟩, ⟨tn, t1, by rw [(B2 58 (by omega)).1]; exact t2, by rw [C 10 (by decide) (by decide) (by decide) (by decide) (by decide) (by decide) (by decide) (by decide) (by decide)]; exact t3, by rw [(B2 59 (by omega)).2.1, (B2 118 (by omega)).2.1]; exact t4⟩, by rw [(B2 63 (by omega)).1, C 30 (by decide) (by decide) (by decide) (by decide) (by decide) (by decide) (by decide) (by decide) (by decide), C 31 (by decide) (by decide) (by decide) (by decide) (by decide) (by decide) (by decide) (by decide) (by decide)]; exact ⟨f1, f2⟩, by rw [C 5 (by decide) (by decide) (by decide) (by decide) (by decide) (by decide) (by decide) (by decide) (by decide)]; exact i5, by unfold wordsR; rw [(B2 119 (by omega)).2.1]; exact wr, Or.inr ⟨⟨by rw [(B2 0 (by omega)).1]; exact i1, by rw [hf_f, if_neg (by decide), e 52 (by decide) (by decide) (by decide) (by decide) (by decide)]; exact b52⟩, N, T, c', ⟨l1, l2, ?_⟩, fun p hp => ?_, l5, CT_eq (fun i h1 h2 => B2 _ (by omega)) (B2 111 (by omega)).2.1 l6, mi, ?_⟩⟩
      · show u.2.1 144 131 = _
        rw [e144]; exact l3
      · show u.2.1 144 (135 + 2 * p) = _
        rw [e144]; exact l4 p hp
      · have w2 : wv (gk_hf u 112 3 0) 93 = wv h 93 := wv_fr (S := fun k => ¬ (21 ≤ k ∧ k < 112)) (h := h) (fun k hk => B2 k (by omega)) (fun i hi q => q (by omega))
        have r2 : rv (gk_hf u 112 3 0) 144 0 = rv h 144 0 := rv_eq fun j hj => by
          show u.2.1 144 (0 + j) = _
          rw [e144]
        rw [w2, r2]; exact l8
theorem lc_image {E : gk_E} {d : Nat} (a0 : Int32) (ha : a0 = 0 ∨ a0 = 1) : lc_ok E (d + 6) InvX jdp_image jmo_image [.int a0] := by
  rcases ha with e | e
  · rw [e]; exact lc_image0
  · rw [e]; exact lc_image1
