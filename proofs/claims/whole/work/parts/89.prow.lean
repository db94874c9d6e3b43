/-! place, row -/
theorem okT_mo {n m : Nat} {T : gT} (h : n ≤ m) (o : okT n T) : okT m T := by
  obtain ⟨o1, o2, o3, o4, o5⟩ := o
  refine ⟨o1, o2, fun i hi => ?_, fun k hk => ?_, o5⟩
  · obtain ⟨a, b, c, e, a1, a2, a3, a4, a5, a6⟩ := o3 i hi
    exact ⟨a, b, c, e, a1, a2, a3, a4, fun q => Nat.lt_of_lt_of_le (a5 q) h, a6⟩
  · obtain ⟨v, hv, e⟩ := o4 k hk
    exact ⟨v, Nat.lt_of_lt_of_le hv (Nat.pow_le_pow_right (by decide) h), e⟩
theorem inv_new {c : Int32 × (Nat → Int32)} {h' : gk_H} {f : Nat} (hf : f < 6) (e1 : h'.1 20 1 = nI f) (e2 : h'.1 20 2 = nI 0) (e3 : h'.1 112 3 = nI 0) (hw : wRel goodW c (wv h' 1) (rv h' 113 0)) (hr : RestX c h') : InvX h' := ⟨c, f, 0, fun _ => wv h' 1, fun _ _ => 0, ⟨hf, Nat.zero_le _, e1, e2, fun i hi => absurd hi (Nat.not_lt_zero _)⟩, ⟨Nat.zero_le _, e3, fun i hi => absurd hi (Nat.not_lt_zero _)⟩, fun i hi => absurd hi (Nat.not_lt_zero _), hw, hr⟩
theorem lc_row {E : gk_E} {d : Nat} (a0 a1 a2 : Int32) : lc_ok E (d + 2) InvX jdp_row jmo_row [.int a0, .int a1, .int a2] := by
  intro h hI
  have hI0 := hI
  obtain ⟨c, f, n, ws, rs, hc, hm, hr, hw, hrest⟩ := hI
  obtain ⟨N, T, ⟨l1, l2, l3⟩, l4⟩ := hrest.1
  have ew : h.1 1 0 = nI N := by rw [← l2, ← hw.1.1]; exact (wv_f rfl (by decide))
  refine ⟨fun r h1 => (¬ ((∃ p, p < N ∧ a0 = nI p) ∧ (0 ≤ a1 ∧ a1 ≤ 7) ∧ (0 ≤ a2 ∧ a2 ≤ 255)) ∧ r = 0 ∧ h1 = h) ∨ ∃ p k, p < N ∧ k < 8 ∧ a0 = nI p ∧ a1 = nI k ∧ ((0 ≤ a1 ∧ a1 ≤ 7) ∧ (0 ≤ a2 ∧ a2 ≤ 255)) ∧ r = 1 ∧ h1 = gk_hl (gk_hf h 20 2 0) 2 p (wrow (h.2.2 2 p) (nI k) a2), fun K1 hK => ?_, fun r h1 hM K2 hK => ?_⟩
  · exact s_dp_row l1 ew (fun q => hK _ _ (Or.inl ⟨q, rfl, rfl⟩)) (fun p k hp hk e1 e2 i1 i2 => hK _ _ (Or.inr ⟨p, k, hp, hk, e1, e2, ⟨i1, i2⟩, rfl, rfl⟩))
  · rcases hM with ⟨q, er, eh⟩ | ⟨p, k, hp, hk, e1, e2, ⟨i1, i2⟩, er, eh⟩
    · rw [er] at hK
      rw [eh]
      exact s_mo_row l1 l3 (fun _ => hK _ (inv_t0 RestX_ok hI0)) (fun p k hp hk e1 e2 i1 i2 => absurd ⟨⟨p, hp, e1⟩, i1, i2⟩ q)
    · rw [er] at hK
      rw [eh]
      refine s_mo_row l1 l3 (fun q => absurd ⟨⟨p, hp, e1⟩, i1, i2⟩ q) (fun p' k' hp' hk' e1' e2' _ _ => hK _ ?_)
      have ep : p' = p := (nI_eq (by omega) (by omega)).mp (e1'.symm.trans e1)
      have ek : k' = k := (nI_eq (by omega) (by omega)).mp (e2'.symm.trans e2)
      rw [ep, ek]
      obtain ⟨v, hv, ev⟩ := of05 (N := 255) (by decide) i2
      have gw : GW N (wv h 1) := GW_of l1 (hw.1.1.trans l2) hw.2.1
      have e0 : h.2.2 2 p = (wv h 1).2.1 p := wv_d (a := 1) rfl (by omega)
      rw [e0]
      refine inv_new hc.1 hc.2.2.1 rfl rfl (c := c) ?_ ?_
      · have q1 : wv (gk_hf (gk_ha (gk_hf (gk_hl (gk_hf h 20 2 0) 2 p (wrow ((wv h 1).2.1 p) (nI k) a2)) 112 0 0) 113 (51 + 8 * p + k) a2) 112 3 0) 1 = wD (wv h 1) p (wrow ((wv h 1).2.1 p) (nI k) a2) := by
          rw [wv_hf (by decide), wv_fr (S := fun k => k = 113) (fr_ha rfl) (fun i hi => by omega), wv_hf (by decide)]
          exact wv_D (a := 1) (by omega) (wv_hf (by decide))
        have q2 : rv (gk_hf (gk_ha (gk_hf (gk_hl (gk_hf h 20 2 0) 2 p (wrow ((wv h 1).2.1 p) (nI k) a2)) 112 0 0) 113 (51 + 8 * p + k) a2) 112 3 0) 113 0 = rU (rv h 113 0) (51 + 8 * p + k) a2 := rv_U (h := gk_hf (gk_hl (gk_hf h 20 2 0) 2 p (wrow ((wv h 1).2.1 p) (nI k) a2)) 112 0 0) (by omega)
        rw [q1, q2]
        refine wR_D (by omega) hk (fun k' hk' => ?_) hw (GW_to (GW_D hp gw))
        rw [ev]
        exact lr_wrow hk hk' (by omega)
      · refine Rest_fr (S := fun k => k = 2 ∨ k = 20 ∨ k = 112 ∨ k = 113) (fun k q => by unfold free; omega) ?_ (same112_of fun s h0 h3 => ?_) hrest
        · exact fr_tr (fr_tr (fr_tr (fr_tr (fr_hf (by omega)) (fr_hl (by omega))) (fr_hf (by omega))) (fr_ha (by omega))) (fr_hf (by omega))
        · rw [hf_f, if_neg (fun q => h3 q.2), ha_1, hf_f, if_neg (fun q => h0 q.2), hl_1, hf_f, if_neg (by omega)]
theorem lc_place {E : gk_E} {d : Nat} (a0 : Int32) : lc_ok E (d + 2) InvX jdp_place jmo_place [.int a0] := by
  intro h hI
  have hI0 := hI
  obtain ⟨c, f, n, ws, rs, hc, hm, hr, hw, hrest⟩ := hI
  obtain ⟨⟨N, T, ⟨l1, l2, l3⟩, l4, l5, l6, l7⟩, ⟨tn, t1, t2, t3, t4⟩, ⟨f1, f2⟩, i5, wr, im⟩ := hrest
  have ew : h.1 1 0 = nI N := by rw [← l2, ← hw.1.1]; exact (wv_f rfl (by decide))
  have gw : GW N (wv h 1) := GW_of l1 (hw.1.1.trans l2) hw.2.1
  refine ⟨fun r h1 => (¬ ((0 ≤ a0 ∧ a0 ≤ 99) ∧ N < 10) ∧ r = -1 ∧ h1 = h) ∨ (((0 ≤ a0 ∧ a0 ≤ 99) ∧ N < 10) ∧ r = nI N ∧ h1 = gk_hf (gk_ha (gk_hf h 20 2 0) 3 N a0) 1 0 (nI (N + 1))), fun K1 hK => ?_, fun r h1 hM K2 hK => ?_⟩
  · exact s_dp_place l1 ew (fun q => hK _ _ (Or.inl ⟨q, rfl, rfl⟩)) (fun q1 q2 => hK _ _ (Or.inr ⟨⟨q1, q2⟩, rfl, rfl⟩))
  · have hz : N < 10 → h.2.1 113 (11 + N) = 0 ∧ h.2.1 113 (21 + N) = 0 ∧ h.2.1 113 (31 + N) = 0 ∧ h.2.1 113 (41 + N) = 0 ∧ ∀ r, r < 8 → h.2.1 113 (51 + 8 * N + r) = 0 := by
      intro h10
      obtain ⟨r0, -, r1, r2, r3, r4, r5, r6, r7⟩ := hw
      obtain ⟨a1, a2, a3, a4, a5⟩ := r7 N h10
      obtain ⟨-, g3, g4, -, -⟩ := gw
      obtain ⟨z1, z2, z3⟩ := g4 N (Nat.le_refl _) h10
      rw [rv_at (by omega)] at a1 a2 a3 a4
      rw [a1, a2, a3, a4, z2, z3, (g3 N (Nat.le_refl _)).1, (g3 N (Nat.le_refl _)).2]
      refine ⟨by decide, rfl, rfl, rfl, fun r hr => ?_⟩
      have := a5 r hr
      rw [rv_at (by omega), z1] at this
      rw [this]
      have lz : ∀ r, r < 8 → lr 0 r = 0 := by decide +kernel
      exact lz r hr
    rcases hM with ⟨q, er, eh⟩ | ⟨⟨q1, q2⟩, er, eh⟩
    · rw [er] at hK
      rw [eh]
      exact s_mo_place l1 l3 hz (fun _ => hK _ (inv_t0 RestX_ok hI0)) (fun z1 z2 => absurd ⟨z1, z2⟩ q)
    · rw [er] at hK
      rw [eh]
      refine s_mo_place (n := N) l1 l3 hz (fun q => absurd ⟨q1, q2⟩ q) (fun _ _ => hK _ ?_)
      refine inv_new hc.1 ?_ ?_ rfl (c := (nI (N + 1), fun p => if p = N then a0 else c.2 p)) ?_ ?_
      · rw [hf_f, if_neg (by decide), hf_f, if_neg (by decide), ha_1, hf_f, if_neg (by decide), hf_f, if_neg (by decide), ha_1, hf_f, if_neg (by decide)]; exact hc.2.2.1
      · rw [hf_f, if_neg (by decide), hf_f, if_neg (by decide), ha_1, hf_f, if_neg (by decide), hf_f, if_neg (by decide), ha_1, hf_f, if_pos ⟨rfl, rfl⟩]; rfl
      · have e1 : wv (gk_hf (gk_hf (gk_ha (gk_hf (gk_hf (gk_ha (gk_hf h 20 2 0) 3 N a0) 1 0 (nI (N + 1))) 112 0 0) 116 N a0) 112 6 (nI (N + 1))) 112 3 0) 1 = wF (wY (wv h 1) N a0) 0 (nI (N + 1)) := by
          rw [wv_hf (by decide), wv_hf (by decide), wv_fr (S := fun k => k = 116) (fr_ha rfl) (fun i hi => by omega), wv_hf (by decide)]
          exact wv_F (by decide) (wv_Y (a := 1) (by omega) (wv_hf (by decide)))
        have e2 : rv (gk_hf (gk_hf (gk_ha (gk_hf (gk_hf (gk_ha (gk_hf h 20 2 0) 3 N a0) 1 0 (nI (N + 1))) 112 0 0) 116 N a0) 112 6 (nI (N + 1))) 112 3 0) 113 0 = rv h 113 0 := rv_eq fun j _ => by
          show (gk_ha (gk_hf (gk_hf (gk_ha (gk_hf h 20 2 0) 3 N a0) 1 0 (nI (N + 1))) 112 0 0) 116 N a0).2.1 113 (0 + j) = _
          rw [ha_a, if_neg (by omega)]
          show (gk_ha (gk_hf h 20 2 0) 3 N a0).2.1 113 (0 + j) = _
          rw [ha_a, if_neg (by omega)]
          rfl
        rw [e1, e2]
        obtain ⟨⟨r0, ry⟩, -, r1, r2, r3, r4, r5, r6, r7⟩ := hw
        refine ⟨⟨rfl, ?_⟩, ?_, r1, r2, r3, r4, r5, r6, r7⟩
        · show (fun q => if q = N then a0 else (wv h 1).2.2.1 q) = fun q => if q = N then a0 else c.2 q
          rw [ry]
        · obtain ⟨g1, g3, g4, g5, g6⟩ := gw
          exact ⟨N + 1, ⟨by omega, rfl⟩, fun p hp => g3 p (by omega), fun p h1 h2 => g4 p (by omega) h2, g5, g6⟩
      · have F : fr (fun k => k = 20 ∨ k = 3 ∨ k = 1 ∨ k = 112 ∨ k = 116) h (gk_hf (gk_hf (gk_ha (gk_hf (gk_hf (gk_ha (gk_hf h 20 2 0) 3 N a0) 1 0 (nI (N + 1))) 112 0 0) 116 N a0) 112 6 (nI (N + 1))) 112 3 0) := fr_tr (fr_tr (fr_tr (fr_tr (fr_tr (fr_tr (fr_hf (by omega)) (fr_ha (by omega))) (fr_hf (by omega))) (fr_hf (by omega))) (fr_ha (by omega))) (fr_hf (by omega))) (fr_hf (by omega))
        have G : ∀ s, ¬ s = 0 → ¬ s = 3 → ¬ s = 6 → (gk_hf (gk_hf (gk_ha (gk_hf (gk_hf (gk_ha (gk_hf h 20 2 0) 3 N a0) 1 0 (nI (N + 1))) 112 0 0) 116 N a0) 112 6 (nI (N + 1))) 112 3 0).1 112 s = h.1 112 s := by
          intro s h0 h3 h6
          rw [hf_f, if_neg (fun q => h3 q.2), hf_f, if_neg (fun q => h6 q.2), ha_1, hf_f, if_neg (fun q => h0 q.2), hf_f, if_neg (by omega), ha_1, hf_f, if_neg (by omega)]
        have e6 : (gk_hf (gk_hf (gk_ha (gk_hf (gk_hf (gk_ha (gk_hf h 20 2 0) 3 N a0) 1 0 (nI (N + 1))) 112 0 0) 116 N a0) 112 6 (nI (N + 1))) 112 3 0).1 112 6 = nI (N + 1) := by
          rw [hf_f, if_neg (by decide), hf_f, if_pos ⟨rfl, rfl⟩]
        have e116 : ∀ p, p < 10 → (gk_hf (gk_hf (gk_ha (gk_hf (gk_hf (gk_ha (gk_hf h 20 2 0) 3 N a0) 1 0 (nI (N + 1))) 112 0 0) 116 N a0) 112 6 (nI (N + 1))) 112 3 0).2.1 116 p = if p = N then a0 else c.2 p := by
          intro p hp
          show (gk_ha (gk_hf (gk_hf (gk_ha (gk_hf h 20 2 0) 3 N a0) 1 0 (nI (N + 1))) 112 0 0) 116 N a0).2.1 116 p = _
          rw [ha_a]
          by_cases e : p = N
          · rw [if_pos ⟨rfl, e⟩, if_pos e]
          · rw [if_neg (fun z => e z.2), if_neg e]
            show (gk_ha (gk_hf h 20 2 0) 3 N a0).2.1 116 p = _
            rw [ha_a, if_neg (by omega)]
            exact l4 p hp
        revert F G e6 e116
        generalize (gk_hf (gk_hf (gk_ha (gk_hf (gk_hf (gk_ha (gk_hf h 20 2 0) 3 N a0) 1 0 (nI (N + 1))) 112 0 0) 116 N a0) 112 6 (nI (N + 1))) 112 3 0) = h'
        intro F G e6 e116
        refine ⟨⟨N + 1, T, ⟨by omega, rfl, e6⟩, e116, okT_mo (by omega) l5, CT_eq (fun i h1 h2 => F _ (by omega)) (F 19 (by decide)).2.1 l6, MTl_eq (fun k h1 h2 => (F k (by omega)).2.1) (G _ (by decide) (by decide) (by decide)) (G _ (by decide) (by decide) (by decide)) (G _ (by decide) (by decide) (by decide)) l7⟩, ⟨tn, t1, ?_, ?_, ?_⟩, ?_, ?_, ?_, img_eq (F 0 (by decide)).1 (G _ (by decide) (by decide) (by decide)) (fun k h1 h2 => F k (by omega)) (F 144 (by decide)).2.1 im⟩
        · rw [(F 58 (by decide)).1]; exact t2
        · rw [G _ (by decide) (by decide) (by decide)]; exact t3
        · rw [(F 59 (by decide)).2.1, (F 118 (by decide)).2.1]; exact t4
        · rw [(F 63 (by decide)).1, G 30 (by decide) (by decide) (by decide), G 31 (by decide) (by decide) (by decide)]; exact ⟨f1, f2⟩
        · rw [G 5 (by decide) (by decide) (by decide)]; exact i5
        · unfold wordsR; rw [(F 119 (by decide)).2.1]; exact wr
