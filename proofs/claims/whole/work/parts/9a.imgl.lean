/-! image, the reference: the law; all of it -/
theorem ha_o {h : gk_H} {k i k' s : Nat} {x : Int32} (e : ¬ k' = k) : (gk_ha h k i x).2.1 k' s = h.2.1 k' s := by rw [ha_a, if_neg (fun q => e q.1)]
section IML
variable {E : gk_E} {d : Nat} {h u : gk_H} {tk : Bool} {V : Nat → Int32}
theorem s_mo_keepsLaw {K : gk_H → Prop} (kp : KP tk V h u 855) (lv : tk = true → LV4 h V) (k : ∀ u', KP tk V h u' 1720 → LV4 u' V → fr (fun k => k = 112 ∨ k = 144 ∨ (120 ≤ k ∧ k ≤ 126)) u u' → (∀ s, ¬ s = 53 → u'.1 112 s = u.1 112 s) → K u') : gk_cv E (d + 2) jmo_keepsLaw [.ref 112] u K := by
  have lh : ∀ {v : gk_H} {j : Nat}, KP tk V h v j → tk = true → (∀ k, ¬ k = 144 → v.2.1 k = h.2.1 k) ∧ ∀ s, ¬ s = 53 → v.1 112 s = h.1 112 s := fun kp => kp.2.2.2
  have c0 : (0 : Int32).toNatClampNeg = 0 := by decide
  refine gk_cv_mk (x_mo_keepsLaw ⟨vpi (by decide), ?_⟩)
  rw [c0]
  refine s_mo_keeps kp (by decide) (fun t => by rw [(lh kp t).1 120 (by decide)]; exact (lv t).1) fun u1 p1 f1 e1 => ⟨vpi (by decide), fe (fe ?_)⟩
  have q0 : KP tk V h (gk_ha u1 120 0 (V 855)) 856 := KP_ha (by decide) (fun t => (lv t).1) p1
  have b120 : (gk_ha u1 120 0 (V 855)).2.1 120 0 = V 855 := by rw [ha_a, if_pos ⟨rfl, rfl⟩]
  have bF : fr (fun k => k = 112 ∨ k = 144 ∨ k = 120) u (gk_ha u1 120 0 (V 855)) := fr_tr (fr_mo f1 (fun k q => by omega)) (fr_ha (by omega))
  have be : ∀ s, ¬ s = 53 → (gk_ha u1 120 0 (V 855)).1 112 s = u.1 112 s := e1
  revert q0 b120 bF be
  generalize gk_ha u1 120 0 (V 855) = v0
  intro q0 b120 bF be
  refine lp_up (N := 16) (fun j (v : gk_H) => g_mo_keepsLaw_18 E (d + 1) (gk_qv K) (nI j) v) (fun j v => KP tk V h v (856 + 4 * j) ∧ fr (fun k => k = 112 ∨ k = 144 ∨ (121 ≤ k ∧ k ≤ 124)) v0 v ∧ (∀ s, ¬ s = 53 → v.1 112 s = v0.1 112 s) ∧ ∀ l, l < j → v.2.1 121 l = V (856 + 4 * l) ∧ v.2.1 122 l = V (857 + 4 * l) ∧ v.2.1 123 l = V (858 + 4 * l) ∧ v.2.1 124 l = V (859 + 4 * l)) ?_ ?_ 0 v0 (by decide) ⟨q0, fr_rf, fun _ _ => rfl, fun k hk => absurd hk (Nat.not_lt_zero _)⟩
  · rintro j v hj ⟨kv, fv, ev, av⟩ ih
    have vp : vp_in (nI j) 48 := vp_in_nI (by omega) (by decide)
    refine x_mo_keepsLaw_18 (pk_le 16 j (fun q => by omega) (fun _ => ⟨vp, ?_⟩))
    rw [nI_clamp (by omega), nI_1]
    refine s_mo_keeps kv (by omega) (fun t => by rw [(lh kv t).1 121 (by decide)]; exact ((lv t).2.1 j hj).1) fun v1 p1 f1 e1 => ⟨vp, fe ⟨vp, ?_⟩⟩
    have k1 : KP tk V h (gk_ha v1 121 j (V (856 + 4 * j))) (857 + 4 * j) := by rw [show 857 + 4 * j = 856 + 4 * j + 1 by omega]; exact KP_ha (by decide) (fun t => ((lv t).2.1 j hj).1) p1
    refine s_mo_keeps k1 (by omega) (fun t => by rw [(lh k1 t).1 122 (by decide)]; exact ((lv t).2.1 j hj).2.1) fun v2 p2 f2 e2 => ⟨vp, fe ⟨vp, ?_⟩⟩
    have k2 : KP tk V h (gk_ha v2 122 j (V (857 + 4 * j))) (858 + 4 * j) := by rw [show 858 + 4 * j = 857 + 4 * j + 1 by omega]; exact KP_ha (by decide) (fun t => ((lv t).2.1 j hj).2.1) p2
    refine s_mo_keeps k2 (by omega) (fun t => by rw [(lh k2 t).1 123 (by decide)]; exact ((lv t).2.1 j hj).2.2.1) fun v3 p3 f3 e3 => ⟨vp, fe ⟨vp, ?_⟩⟩
    have k3 : KP tk V h (gk_ha v3 123 j (V (858 + 4 * j))) (859 + 4 * j) := by rw [show 859 + 4 * j = 858 + 4 * j + 1 by omega]; exact KP_ha (by decide) (fun t => ((lv t).2.1 j hj).2.2.1) p3
    refine s_mo_keeps k3 (by omega) (fun t => by rw [(lh k3 t).1 124 (by decide)]; exact ((lv t).2.1 j hj).2.2.2) fun v4 p4 f4 e4 => ⟨vp, fe (fe ?_)⟩
    have k4 : KP tk V h (gk_ha v4 124 j (V (859 + 4 * j))) (856 + 4 * (j + 1)) := by rw [show 856 + 4 * (j + 1) = 859 + 4 * j + 1 by omega]; exact KP_ha (by decide) (fun t => ((lv t).2.1 j hj).2.2.2) p4
    refine ih _ ⟨k4, fr_tr fv (fr_tr (fr_mo f1 (fun k q => by omega)) (fr_tr (fr_ha (by omega)) (fr_tr (fr_mo f2 (fun k q => by omega)) (fr_tr (fr_ha (by omega)) (fr_tr (fr_mo f3 (fun k q => by omega)) (fr_tr (fr_ha (by omega)) (fr_tr (fr_mo f4 (fun k q => by omega)) (fr_ha (by omega))))))))), fun s hs => ((((e4 s hs).trans (e3 s hs)).trans (e2 s hs)).trans (e1 s hs)).trans (ev s hs), fun l hl => ?_⟩
    have r1 : (gk_ha v4 124 j (V (859 + 4 * j))).2.1 121 l = if l = j then V (856 + 4 * j) else v.2.1 121 l := by
      rw [ha_o (by decide), (f4 121 (by decide)).2.1, ha_o (by decide), (f3 121 (by decide)).2.1, ha_o (by decide), (f2 121 (by decide)).2.1, OW_set, (f1 121 (by decide)).2.1]
    have r2 : (gk_ha v4 124 j (V (859 + 4 * j))).2.1 122 l = if l = j then V (857 + 4 * j) else v.2.1 122 l := by
      rw [ha_o (by decide), (f4 122 (by decide)).2.1, ha_o (by decide), (f3 122 (by decide)).2.1, OW_set, (f2 122 (by decide)).2.1, ha_o (by decide), (f1 122 (by decide)).2.1]
    have r3 : (gk_ha v4 124 j (V (859 + 4 * j))).2.1 123 l = if l = j then V (858 + 4 * j) else v.2.1 123 l := by
      rw [ha_o (by decide), (f4 123 (by decide)).2.1, OW_set, (f3 123 (by decide)).2.1, ha_o (by decide), (f2 123 (by decide)).2.1, ha_o (by decide), (f1 123 (by decide)).2.1]
    have r4 : (gk_ha v4 124 j (V (859 + 4 * j))).2.1 124 l = if l = j then V (859 + 4 * j) else v.2.1 124 l := by
      rw [OW_set, (f4 124 (by decide)).2.1, ha_o (by decide), (f3 124 (by decide)).2.1, ha_o (by decide), (f2 124 (by decide)).2.1, ha_o (by decide), (f1 124 (by decide)).2.1]
    rw [r1, r2, r3, r4]
    by_cases z : l = j
    · rw [if_pos z, if_pos z, if_pos z, if_pos z, z]; exact ⟨rfl, rfl, rfl, rfl⟩
    · rw [if_neg z, if_neg z, if_neg z, if_neg z]; exact av l (by omega)
  · rintro v ⟨kv, fv, ev, av⟩
    refine x_mo_keepsLaw_18 (pk_le 16 16 (fun _ => fe ?_) (fun q => by omega))
    refine lp_up (N := 400) (fun j (v' : gk_H) => g_mo_keepsLaw_96 E (d + 1) (gk_qv K) (nI j) v') (fun j v' => KP tk V h v' (920 + 2 * j) ∧ fr (fun k => k = 112 ∨ k = 144 ∨ k = 125 ∨ k = 126) v v' ∧ (∀ s, ¬ s = 53 → v'.1 112 s = v.1 112 s) ∧ ∀ l, l < j → v'.2.1 125 l = V (920 + 2 * l) ∧ v'.2.1 126 l = V (921 + 2 * l)) ?_ ?_ 0 v (by decide) ⟨kv, fr_rf, fun _ _ => rfl, fun k hk => absurd hk (Nat.not_lt_zero _)⟩
    · rintro j v' hj ⟨kv', fv', ev', av'⟩ ih
      have vp : vp_in (nI j) 1200 := vp_in_nI (by omega) (by decide)
      refine x_mo_keepsLaw_96 (pk_le 400 j (fun q => by omega) (fun _ => ⟨vp, ?_⟩))
      rw [nI_clamp (by omega), nI_1]
      refine s_mo_keeps kv' (by omega) (fun t => by rw [(lh kv' t).1 125 (by decide)]; exact ((lv t).2.2 j hj).1) fun v1 p1 f1 e1 => ⟨vp, fe ⟨vp, ?_⟩⟩
      have k1 : KP tk V h (gk_ha v1 125 j (V (920 + 2 * j))) (921 + 2 * j) := by rw [show 921 + 2 * j = 920 + 2 * j + 1 by omega]; exact KP_ha (by decide) (fun t => ((lv t).2.2 j hj).1) p1
      refine s_mo_keeps k1 (by omega) (fun t => by rw [(lh k1 t).1 126 (by decide)]; exact ((lv t).2.2 j hj).2) fun v2 p2 f2 e2 => ⟨vp, fe (fe ?_)⟩
      have k2 : KP tk V h (gk_ha v2 126 j (V (921 + 2 * j))) (920 + 2 * (j + 1)) := by rw [show 920 + 2 * (j + 1) = 921 + 2 * j + 1 by omega]; exact KP_ha (by decide) (fun t => ((lv t).2.2 j hj).2) p2
      refine ih _ ⟨k2, fr_tr fv' (fr_tr (fr_mo f1 (fun k q => by omega)) (fr_tr (fr_ha (by omega)) (fr_tr (fr_mo f2 (fun k q => by omega)) (fr_ha (by omega))))), fun s hs => ((e2 s hs).trans (e1 s hs)).trans (ev' s hs), fun l hl => ?_⟩
      have r1 : (gk_ha v2 126 j (V (921 + 2 * j))).2.1 125 l = if l = j then V (920 + 2 * j) else v'.2.1 125 l := by
        rw [ha_o (by decide), (f2 125 (by decide)).2.1, OW_set, (f1 125 (by decide)).2.1]
      have r2 : (gk_ha v2 126 j (V (921 + 2 * j))).2.1 126 l = if l = j then V (921 + 2 * j) else v'.2.1 126 l := by
        rw [OW_set, (f2 126 (by decide)).2.1, ha_o (by decide), (f1 126 (by decide)).2.1]
      rw [r1, r2]
      by_cases z : l = j
      · rw [if_pos z, if_pos z, z]; exact ⟨rfl, rfl⟩
      · rw [if_neg z, if_neg z]; exact av' l (by omega)
    · rintro w ⟨kw, fw, ew, aw⟩
      refine x_mo_keepsLaw_96 (pk_le 400 400 (fun _ => ?_) (fun q => by omega))
      refine k w kw ⟨?_, fun l hl => ?_, aw⟩ ?_ (fun s hs => ((ew s hs).trans (ev s hs)).trans (be s hs))
      · rw [(fw 120 (by decide)).2.1, (fv 120 (by decide)).2.1]; exact b120
      · rw [(fw 121 (by decide)).2.1, (fw 122 (by decide)).2.1, (fw 123 (by decide)).2.1, (fw 124 (by decide)).2.1]; exact av l hl
      · exact fr_tr (fr_mo bF (fun k q => by omega)) (fr_tr (fr_mo fv (fun k q => by omega)) (fr_mo fw (fun k q => by omega)))
/-- all that an image holds, from the first loop on -/
theorem g_image {K : Int32 → gk_H → Prop} {a : Int32} (kp : KP tk V h u 0) (lv : tk = true → LV1 h V ∧ LV2 h V ∧ LV3 h V ∧ LV4 h V) (k : ∀ u', KP tk V h u' 1720 → LV1 u' V ∧ LV2 u' V ∧ LV3 u' V ∧ LV4 u' V → fr (fun k => k = 112 ∨ k = 113 ∨ k = 116 ∨ k = 117 ∨ (120 ≤ k ∧ k ≤ 126) ∨ (128 ≤ k ∧ k ≤ 130) ∨ k = 144) u u' → f112 u u' → (¬ a = 0 → K 1 u') ∧ (a = 0 → K 1 (gk_hf u' 112 3 0))) : g_mo_image_35 E (d + 2) (gk_qi K) a 0 u := by
  have lh : ∀ {v : gk_H} {j : Nat}, KP tk V h v j → tk = true → (∀ k, ¬ k = 144 → v.2.1 k = h.2.1 k) ∧ ∀ s, ¬ s = 53 → v.1 112 s = h.1 112 s := fun kp => kp.2.2.2
  refine lp_up (N := 131) (fun j (v : gk_H) => g_mo_image_35 E (d + 2) (gk_qi K) a (nI j) v) (fun j v => KP tk V h v j ∧ fr (fun k => k = 112 ∨ k = 144 ∨ k = 113) u v ∧ (∀ s, ¬ s = 53 → v.1 112 s = u.1 112 s) ∧ ∀ l, l < j → v.2.1 113 l = V l) ?_ ?_ 0 u (by decide) ⟨kp, fr_rf, fun _ _ => rfl, fun k hk => absurd hk (Nat.not_lt_zero _)⟩
  · rintro j v hj ⟨kv, fv, ev, av⟩ ih
    refine x_mo_image_35 (pk_le 131 j (fun q => by omega) (fun _ => ⟨vp_in_nI (by omega) (by decide), ?_⟩))
    rw [nI_clamp (by omega), nI_1]
    refine s_mo_keeps kv (by omega) (fun t => by rw [(lh kv t).1 113 (by decide)]; exact (lv t).1 j hj) fun v1 p1 f1 e1 => ⟨vp_in_nI (by omega) (by decide), fe (fe ?_)⟩
    refine ih _ ⟨KP_ha (by decide) (fun t => (lv t).1 j hj) p1, fr_tr fv (fr_tr (fr_mo f1 (fun k q => by omega)) (fr_ha (by omega))), fun s hs => (e1 s hs).trans (ev s hs), fun k hk => ?_⟩
    rw [OW_set, (f1 113 (by decide)).2.1]
    by_cases z : k = j
    · rw [if_pos z, z]
    · rw [if_neg z]; exact av k (by omega)
  · rintro v ⟨kv, fv, ev, av⟩
    refine x_mo_image_35 (pk_le 131 131 (fun _ => s_mo_keepsTold (d := d) kv (fun t => (lv t).2.1) fun v1 k1 l2 f1 e1 => fe ?_) (fun q => by omega))
    refine lp_up (N := 600) (fun j (w : gk_H) => g_mo_image_70 E (d + 2) (gk_qi K) a (nI j) w) (fun j w => KP tk V h w (255 + j) ∧ fr (fun k => k = 112 ∨ k = 144 ∨ k = 117) v1 w ∧ (∀ s, ¬ s = 53 → w.1 112 s = v1.1 112 s) ∧ ∀ l, l < j → w.2.1 117 l = V (255 + l)) ?_ ?_ 0 v1 (by decide) ⟨k1, fr_rf, fun _ _ => rfl, fun k hk => absurd hk (Nat.not_lt_zero _)⟩
    · rintro j w hj ⟨kw, fw, ew, aw⟩ ih
      refine x_mo_image_70 (pk_le 600 j (fun q => by omega) (fun _ => ⟨vp_in_nI (by omega) (by decide), ?_⟩))
      rw [nI_clamp (by omega), nI_1]
      refine s_mo_keeps kw (by omega) (fun t => by rw [(lh kw t).1 117 (by decide)]; exact (lv t).2.2.1 j hj) fun w1 p1 f1 e1 => ⟨vp_in_nI (by omega) (by decide), fe (fe ?_)⟩
      refine ih _ ⟨KP_ha (by decide) (fun t => (lv t).2.2.1 j hj) p1, fr_tr fw (fr_tr (fr_mo f1 (fun k q => by omega)) (fr_ha (by omega))), fun s hs => (e1 s hs).trans (ew s hs), fun k hk => ?_⟩
      rw [OW_set, (f1 117 (by decide)).2.1]
      by_cases z : k = j
      · rw [if_pos z, z]
      · rw [if_neg z]; exact aw k (by omega)
    · rintro w ⟨kw, fw, ew, aw⟩
      refine x_mo_image_70 (pk_le 600 600 (fun _ => s_mo_keepsLaw (d := d) kw (fun t => (lv t).2.2.2) fun w2 k2 l4 f2 e2 => ?_) (fun q => by omega))
      have G : fr (fun k => k = 112 ∨ k = 144 ∨ k = 117 ∨ (120 ≤ k ∧ k ≤ 126)) v1 w2 := fr_tr (fr_mo fw (fun k q => by omega)) (fr_mo f2 (fun k q => by omega))
      have es : ∀ s, ¬ s = 53 → w2.1 112 s = v1.1 112 s := fun s hs => (e2 s hs).trans (ew s hs)
      have kk := k w2 k2 ⟨fun l hl => ?_, ⟨by rw [es 6 (by decide), es 32 (by decide), es 34 (by decide), es 36 (by decide)]; exact l2.1, by rw [(G 116 (by omega)).2.1, (G 130 (by omega)).2.1]; exact l2.2.1, by rw [(G 128 (by omega)).2.1]; exact l2.2.2.1, by rw [(G 129 (by omega)).2.1]; exact l2.2.2.2⟩, fun l hl => ?_, l4⟩ (fr_tr (fr_mo fv (fun k q => by omega)) (fr_tr (fr_mo f1 (fun k q => by omega)) (fr_mo G (fun k q => by omega)))) (fun s h53 h6 h32 h34 h36 => ((es s h53).trans (e1 s h53 h6 h32 h34 h36)).trans (ev s h53))
      · exact ⟨fun q => ⟨Or.inr rfl, kk.1 q⟩, fun q => fe ⟨Or.inr rfl, kk.2 q⟩⟩
      · rw [(G 113 (by omega)).2.1, (f1 113 (by omega)).2.1]; exact av l hl
      · rw [(f2 117 (by omega)).2.1]; exact aw l hl
end IML
