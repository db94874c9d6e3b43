/-! image, the reference -/
def LVf (h : gk_H) (i : Nat) : Int32 := if i < 131 then h.2.1 113 i else if i = 131 then h.1 112 6 else if i = 132 then h.1 112 32 else if i = 133 then h.1 112 34 else if i = 134 then h.1 112 36 else if i < 155 then (if i % 2 = 1 then h.2.1 116 ((i - 135) / 2) else h.2.1 130 ((i - 136) / 2)) else if i < 191 then h.2.1 128 (i - 155) else if i < 255 then h.2.1 129 (i - 191) else if i < 855 then h.2.1 117 (i - 255) else if i = 855 then h.2.1 120 0 else if i < 920 then (if i % 4 = 0 then h.2.1 121 ((i - 856) / 4) else if i % 4 = 1 then h.2.1 122 ((i - 857) / 4) else if i % 4 = 2 then h.2.1 123 ((i - 858) / 4) else h.2.1 124 ((i - 859) / 4)) else (if i % 2 = 0 then h.2.1 125 ((i - 920) / 2) else h.2.1 126 ((i - 921) / 2))
def LV1 (h : gk_H) (V : Nat → Int32) : Prop := ∀ k, k < 131 → h.2.1 113 k = V k
def LV2 (h : gk_H) (V : Nat → Int32) : Prop := (h.1 112 6 = V 131 ∧ h.1 112 32 = V 132 ∧ h.1 112 34 = V 133 ∧ h.1 112 36 = V 134) ∧ (∀ k, k < 10 → h.2.1 116 k = V (135 + 2 * k) ∧ h.2.1 130 k = V (136 + 2 * k)) ∧ (∀ k, k < 36 → h.2.1 128 k = V (155 + k)) ∧ ∀ k, k < 64 → h.2.1 129 k = V (191 + k)
def LV3 (h : gk_H) (V : Nat → Int32) : Prop := ∀ k, k < 600 → h.2.1 117 k = V (255 + k)
def LV4 (h : gk_H) (V : Nat → Int32) : Prop := h.2.1 120 0 = V 855 ∧ (∀ l, l < 16 → h.2.1 121 l = V (856 + 4 * l) ∧ h.2.1 122 l = V (857 + 4 * l) ∧ h.2.1 123 l = V (858 + 4 * l) ∧ h.2.1 124 l = V (859 + 4 * l)) ∧ ∀ i, i < 400 → h.2.1 125 i = V (920 + 2 * i) ∧ h.2.1 126 i = V (921 + 2 * i)
theorem LVf_ok (h : gk_H) : LV1 h (LVf h) ∧ LV2 h (LVf h) ∧ LV3 h (LVf h) ∧ LV4 h (LVf h) := by
  refine ⟨fun k hk => ?_, ⟨⟨rfl, rfl, rfl, rfl⟩, fun k hk => ⟨?_, ?_⟩, fun k hk => ?_, fun k hk => ?_⟩, fun k hk => ?_, rfl, fun l hl => ⟨?_, ?_, ?_, ?_⟩, fun i hi => ⟨?_, ?_⟩⟩
  · unfold LVf; rw [if_pos hk]
  · unfold LVf; rw [if_neg (by omega), if_neg (by omega), if_neg (by omega), if_neg (by omega), if_neg (by omega), if_pos (by omega), if_pos (by omega), show (135 + 2 * k - 135) / 2 = k by omega]
  · unfold LVf; rw [if_neg (by omega), if_neg (by omega), if_neg (by omega), if_neg (by omega), if_neg (by omega), if_pos (by omega), if_neg (by omega), show (136 + 2 * k - 136) / 2 = k by omega]
  · unfold LVf; rw [if_neg (by omega), if_neg (by omega), if_neg (by omega), if_neg (by omega), if_neg (by omega), if_neg (by omega), if_pos (by omega), show 155 + k - 155 = k by omega]
  · unfold LVf; rw [if_neg (by omega), if_neg (by omega), if_neg (by omega), if_neg (by omega), if_neg (by omega), if_neg (by omega), if_neg (by omega), if_pos (by omega), show 191 + k - 191 = k by omega]
  · unfold LVf; rw [if_neg (by omega), if_neg (by omega), if_neg (by omega), if_neg (by omega), if_neg (by omega), if_neg (by omega), if_neg (by omega), if_neg (by omega), if_pos (by omega), show 255 + k - 255 = k by omega]
  · unfold LVf; rw [if_neg (by omega), if_neg (by omega), if_neg (by omega), if_neg (by omega), if_neg (by omega), if_neg (by omega), if_neg (by omega), if_neg (by omega), if_neg (by omega), if_neg (by omega), if_pos (by omega), if_pos (by omega), show (856 + 4 * l - 856) / 4 = l by omega]
  · unfold LVf; rw [if_neg (by omega), if_neg (by omega), if_neg (by omega), if_neg (by omega), if_neg (by omega), if_neg (by omega), if_neg (by omega), if_neg (by omega), if_neg (by omega), if_neg (by omega), if_pos (by omega), if_neg (by omega), if_pos (by omega), show (857 + 4 * l - 857) / 4 = l by omega]
  · unfold LVf; rw [if_neg (by omega), if_neg (by omega), if_neg (by omega), if_neg (by omega), if_neg (by omega), if_neg (by omega), if_neg (by omega), if_neg (by omega), if_neg (by omega), if_neg (by omega), if_pos (by omega), if_neg (by omega), if_neg (by omega), if_pos (by omega), show (858 + 4 * l - 858) / 4 = l by omega]
  · unfold LVf; rw [if_neg (by omega), if_neg (by omega), if_neg (by omega), if_neg (by omega), if_neg (by omega), if_neg (by omega), if_neg (by omega), if_neg (by omega), if_neg (by omega), if_neg (by omega), if_pos (by omega), if_neg (by omega), if_neg (by omega), if_neg (by omega), show (859 + 4 * l - 859) / 4 = l by omega]
  · unfold LVf; rw [if_neg (by omega), if_neg (by omega), if_neg (by omega), if_neg (by omega), if_neg (by omega), if_neg (by omega), if_neg (by omega), if_neg (by omega), if_neg (by omega), if_neg (by omega), if_neg (by omega), if_pos (by omega), show (920 + 2 * i - 920) / 2 = i by omega]
  · unfold LVf; rw [if_neg (by omega), if_neg (by omega), if_neg (by omega), if_neg (by omega), if_neg (by omega), if_neg (by omega), if_neg (by omega), if_neg (by omega), if_neg (by omega), if_neg (by omega), if_neg (by omega), if_neg (by omega), show (921 + 2 * i - 921) / 2 = i by omega]
def KP (tk : Bool) (V : Nat → Int32) (h u : gk_H) (i : Nat) : Prop := (u.1 112 53 = nI i ∧ u.1 112 51 = nb_b tk) ∧ (∀ j, j < i → u.2.1 144 j = V j) ∧ (tk = false → ∀ j, u.2.1 144 j = V j) ∧ (tk = true → (∀ k, ¬ k = 144 → u.2.1 k = h.2.1 k) ∧ ∀ s, ¬ s = 53 → u.1 112 s = h.1 112 s)
/-- the fields that a run does not touch -/
def f112 (h u : gk_H) : Prop := ∀ s, ¬ s = 53 → ¬ s = 6 → ¬ s = 32 → ¬ s = 34 → ¬ s = 36 → u.1 112 s = h.1 112 s
section IMG
variable {E : gk_E} {d : Nat} {h u : gk_H} {tk : Bool} {V : Nat → Int32} {i : Nat}
theorem KP_ha {A j : Nat} {x : Int32} (hA : ¬ A = 144) (hx : tk = true → h.2.1 A j = x) (kp : KP tk V h u i) : KP tk V h (gk_ha u A j x) i := by
  obtain ⟨k1, k2, k3, k4⟩ := kp
  refine ⟨k1, fun j' hj => ?_, fun ht j' => ?_, fun ht => ?_⟩
  · rw [ha_a, if_neg (fun q => hA q.1.symm)]; exact k2 j' hj
  · rw [ha_a, if_neg (fun q => hA q.1.symm)]; exact k3 ht j'
  · rw [ha_same (by rw [(k4 ht).1 A hA]; exact hx ht)]; exact k4 ht
theorem KP_hf {s : Nat} {x : Int32} (hs : ¬ s = 53 ∧ ¬ s = 51) (hx : tk = true → h.1 112 s = x) (kp : KP tk V h u i) : KP tk V h (gk_hf u 112 s x) i := by
  obtain ⟨k1, k2, k3, k4⟩ := kp
  refine ⟨⟨?_, ?_⟩, k2, k3, fun ht => ⟨(k4 ht).1, fun s' hs' => ?_⟩⟩
  · rw [hf_f, if_neg (fun q => hs.1 q.2.symm)]; exact k1.1
  · rw [hf_f, if_neg (fun q => hs.2 q.2.symm)]; exact k1.2
  · rw [hf_f]
    by_cases q : s' = s
    · rw [if_pos ⟨rfl, q⟩, q]; exact (hx ht).symm
    · rw [if_neg (fun z => q z.2)]; exact (k4 ht).2 s' hs'
theorem s_mo_keeps {K : Int32 → gk_H → Prop} {v : Int32} (kp : KP tk V h u i) (hi : i < 2300) (hv : tk = true → v = V i) (k : ∀ u', KP tk V h u' (i + 1) → fr (fun k => k = 112 ∨ k = 144) u u' → (∀ s, ¬ s = 53 → u'.1 112 s = u.1 112 s) → K (V i) u') : gk_ci E (d + 1) jmo_keeps [.ref 112, .int v] u K := by
  obtain ⟨⟨k1, k1'⟩, k2, k3, k4⟩ := kp
  have a53 : (gk_hf u 112 53 (u.1 112 53 + 1)).1 112 53 = nI (i + 1) := by rw [hf_f, if_pos ⟨rfl, rfl⟩, k1, nI_1]
  have a51 : (gk_hf u 112 53 (u.1 112 53 + 1)).1 112 51 = nb_b tk := by rw [hf_f, if_neg (by decide)]; exact k1'
  have an : ∀ s, ¬ s = 53 → (gk_hf u 112 53 (u.1 112 53 + 1)).1 112 s = u.1 112 s := fun s hs => by rw [hf_f, if_neg (fun q => hs q.2)]
  refine gk_ci_mk (x_mo_keeps (fe ?_))
  rw [a53, a51, nI_pred, nI_clamp (by omega)]
  have vp : vp_in (nI i) 2300 := vp_in_nI (by omega) (by decide)
  cases tk with
  | true =>
    refine zF (by decide) ⟨vp, fe ?_⟩
    rw [hv rfl]
    refine k _ ⟨⟨a53, a51⟩, fun j hj => ?_, fun q => (by cases q), fun _ => ⟨fun k' hk' => ?_, fun s hs => (an s hs).trans ((k4 rfl).2 s hs)⟩⟩ (fr_tr (fr_hf (Or.inl rfl)) (fr_ha (Or.inr rfl))) an
    · rw [OW_set]
      by_cases z : j = i
      · rw [if_pos z, z]
      · rw [if_neg z]; exact k2 j (by omega)
    · refine Eq.trans (funext fun s => ?_) ((k4 rfl).1 k' hk')
      rw [ha_a, if_neg (fun q => hk' q.1)]; rfl
  | false =>
    refine zT rfl ⟨vp, ?_⟩
    have : (gk_hf u 112 53 (u.1 112 53 + 1)).2.1 144 i = V i := k3 rfl i
    rw [this]
    exact k _ ⟨⟨a53, a51⟩, fun j _ => k3 rfl j, k3, fun q => (by cases q)⟩ (fr_hf (Or.inl rfl)) an
theorem s_mo_keepsTold {K : gk_H → Prop} (kp : KP tk V h u 131) (lv : tk = true → LV2 h V) (k : ∀ u', KP tk V h u' 255 → LV2 u' V → fr (fun k => k = 112 ∨ k = 144 ∨ k = 116 ∨ (128 ≤ k ∧ k ≤ 130)) u u' → f112 u u' → K u') : gk_cv E (d + 2) jmo_keepsTold [.ref 112] u K := by
  have lh : ∀ {v : gk_H} {j : Nat}, KP tk V h v j → tk = true → (∀ k, ¬ k = 144 → v.2.1 k = h.2.1 k) ∧ ∀ s, ¬ s = 53 → v.1 112 s = h.1 112 s := fun kp => kp.2.2.2
  refine gk_cv_mk (x_mo_keepsTold (s_mo_keeps kp (by decide) (fun t => ((lh kp t).2 6 (by decide)).trans (lv t).1.1) fun u1 p1 f1 e1 => fe ?_))
  have q1 : KP tk V h (gk_hf u1 112 6 (V 131)) 132 := KP_hf (by decide) (fun t => (lv t).1.1) p1
  refine s_mo_keeps q1 (by decide) (fun t => ((lh q1 t).2 32 (by decide)).trans (lv t).1.2.1) fun u2 p2 f2 e2 => fe ?_
  have q2 : KP tk V h (gk_hf u2 112 32 (V 132)) 133 := KP_hf (by decide) (fun t => (lv t).1.2.1) p2
  refine s_mo_keeps q2 (by decide) (fun t => ((lh q2 t).2 34 (by decide)).trans (lv t).1.2.2.1) fun u3 p3 f3 e3 => fe ?_
  have q3 : KP tk V h (gk_hf u3 112 34 (V 133)) 134 := KP_hf (by decide) (fun t => (lv t).1.2.2.1) p3
  refine s_mo_keeps q3 (by decide) (fun t => ((lh q3 t).2 36 (by decide)).trans (lv t).1.2.2.2) fun u4 p4 f4 e4 => fe (fe ?_)
  have q4 : KP tk V h (gk_hf u4 112 36 (V 134)) 135 := KP_hf (by decide) (fun t => (lv t).1.2.2.2) p4
  have b36 : (gk_hf u4 112 36 (V 134)).1 112 36 = V 134 := by rw [hf_f, if_pos ⟨rfl, rfl⟩]
  have b34 : (gk_hf u4 112 36 (V 134)).1 112 34 = V 133 := by rw [hf_f, if_neg (by decide), e4 34 (by decide), hf_f, if_pos ⟨rfl, rfl⟩]
  have b32 : (gk_hf u4 112 36 (V 134)).1 112 32 = V 132 := by rw [hf_f, if_neg (by decide), e4 32 (by decide), hf_f, if_neg (by decide), e3 32 (by decide), hf_f, if_pos ⟨rfl, rfl⟩]
  have b6 : (gk_hf u4 112 36 (V 134)).1 112 6 = V 131 := by rw [hf_f, if_neg (by decide), e4 6 (by decide), hf_f, if_neg (by decide), e3 6 (by decide), hf_f, if_neg (by decide), e2 6 (by decide), hf_f, if_pos ⟨rfl, rfl⟩]
  have bf : f112 u (gk_hf u4 112 36 (V 134)) := fun s h53 h6 h32 h34 h36 => by
    rw [hf_f, if_neg (fun q => h36 q.2), e4 s h53, hf_f, if_neg (fun q => h34 q.2), e3 s h53, hf_f, if_neg (fun q => h32 q.2), e2 s h53, hf_f, if_neg (fun q => h6 q.2), e1 s h53]
  have bF : fr (fun k => k = 112 ∨ k = 144) u (gk_hf u4 112 36 (V 134)) := fr_tr f1 (fr_tr (fr_hf (Or.inl rfl)) (fr_tr f2 (fr_tr (fr_hf (Or.inl rfl)) (fr_tr f3 (fr_tr (fr_hf (Or.inl rfl)) (fr_tr f4 (fr_hf (Or.inl rfl))))))))
  revert q4 b36 b34 b32 b6 bf bF
  generalize gk_hf u4 112 36 (V 134) = v0
  intro q4 b36 b34 b32 b6 bf bF
  refine lp_up (N := 10) (fun j (v : gk_H) => g_mo_keepsTold_50 E (d + 1) (gk_qv K) (nI j) v) (fun j v => KP tk V h v (135 + 2 * j) ∧ fr (fun k => k = 112 ∨ k = 144 ∨ k = 116 ∨ k = 130) v0 v ∧ (∀ s, ¬ s = 53 → v.1 112 s = v0.1 112 s) ∧ ∀ k, k < j → v.2.1 116 k = V (135 + 2 * k) ∧ v.2.1 130 k = V (136 + 2 * k)) ?_ ?_ 0 v0 (by decide) ⟨q4, fr_rf, fun _ _ => rfl, fun k hk => absurd hk (Nat.not_lt_zero _)⟩
  · rintro j v hj ⟨kv, fv, ev, av⟩ ih
    refine x_mo_keepsTold_50 (pk_le 10 j (fun q => by omega) (fun _ => ⟨vp_in_nI (by omega) (by decide), ?_⟩))
    rw [nI_clamp (by omega), nI_1]
    refine s_mo_keeps kv (by omega) (fun t => by rw [(lh kv t).1 116 (by decide)]; exact ((lv t).2.1 j hj).1) fun v1 p1 f1 e1 => ⟨vp_in_nI (by omega) (by decide), fe ⟨vp_in_nI (by omega) (by decide), ?_⟩⟩
    have k1 : KP tk V h (gk_ha v1 116 j (V (135 + 2 * j))) (136 + 2 * j) := by rw [show 136 + 2 * j = 135 + 2 * j + 1 by omega]; exact KP_ha (by decide) (fun t => ((lv t).2.1 j hj).1) p1
    refine s_mo_keeps k1 (by omega) (fun t => by rw [(lh k1 t).1 130 (by decide)]; exact ((lv t).2.1 j hj).2) fun v2 p2 f2 e2 => ⟨vp_in_nI (by omega) (by decide), fe (fe ?_)⟩
    have k2 : KP tk V h (gk_ha v2 130 j (V (136 + 2 * j))) (135 + 2 * (j + 1)) := by rw [show 135 + 2 * (j + 1) = 136 + 2 * j + 1 by omega]; exact KP_ha (by decide) (fun t => ((lv t).2.1 j hj).2) p2
    refine ih _ ⟨k2, fr_tr fv (fr_tr (fr_mo f1 (fun k q => by omega)) (fr_tr (fr_ha (by omega)) (fr_tr (fr_mo f2 (fun k q => by omega)) (fr_ha (by omega))))), fun s hs => ((e2 s hs).trans (e1 s hs)).trans (ev s hs), fun k hk => ?_⟩
    rw [ha_a, if_neg (by omega), (f2 116 (by decide)).2.1, OW_set, (f1 116 (by decide)).2.1, OW_set, (f2 130 (by decide)).2.1]
    by_cases z : k = j
    · rw [if_pos z, if_pos z, z]; exact ⟨rfl, rfl⟩
    · rw [if_neg z, if_neg z, ha_a, if_neg (by omega), (f1 130 (by decide)).2.1]; exact av k (by omega)
  · rintro v ⟨kv, fv, ev, av⟩
    refine x_mo_keepsTold_50 (pk_le 10 10 (fun _ => fe ?_) (fun q => by omega))
    refine lp_up (N := 36) (fun j (v' : gk_H) => g_mo_keepsTold_96 E (d + 1) (gk_qv K) (nI j) v') (fun j v' => KP tk V h v' (155 + j) ∧ fr (fun k => k = 112 ∨ k = 144 ∨ k = 128) v v' ∧ (∀ s, ¬ s = 53 → v'.1 112 s = v.1 112 s) ∧ ∀ k, k < j → v'.2.1 128 k = V (155 + k)) ?_ ?_ 0 v (by decide) ⟨kv, fr_rf, fun _ _ => rfl, fun k hk => absurd hk (Nat.not_lt_zero _)⟩
    · rintro j v' hj ⟨kv', fv', ev', av'⟩ ih
      refine x_mo_keepsTold_96 (pk_le 36 j (fun q => by omega) (fun _ => ⟨vp_in_nI (by omega) (by decide), ?_⟩))
      rw [nI_clamp (by omega), nI_1]
      refine s_mo_keeps kv' (by omega) (fun t => by rw [(lh kv' t).1 128 (by decide)]; exact (lv t).2.2.1 j hj) fun v1 p1 f1 e1 => ⟨vp_in_nI (by omega) (by decide), fe (fe ?_)⟩
      refine ih _ ⟨KP_ha (by decide) (fun t => (lv t).2.2.1 j hj) p1, fr_tr fv' (fr_tr (fr_mo f1 (fun k q => by omega)) (fr_ha (by omega))), fun s hs => (e1 s hs).trans (ev' s hs), fun k hk => ?_⟩
      rw [OW_set, (f1 128 (by decide)).2.1]
      by_cases z : k = j
      · rw [if_pos z, z]
      · rw [if_neg z]; exact av' k (by omega)
    · rintro v' ⟨kv', fv', ev', av'⟩
      refine x_mo_keepsTold_96 (pk_le 36 36 (fun _ => fe ?_) (fun q => by omega))
      refine lp_up (N := 64) (fun j (w : gk_H) => g_mo_keepsTold_126 E (d + 1) (gk_qv K) (nI j) w) (fun j w => KP tk V h w (191 + j) ∧ fr (fun k => k = 112 ∨ k = 144 ∨ k = 129) v' w ∧ (∀ s, ¬ s = 53 → w.1 112 s = v'.1 112 s) ∧ ∀ k, k < j → w.2.1 129 k = V (191 + k)) ?_ ?_ 0 v' (by decide) ⟨kv', fr_rf, fun _ _ => rfl, fun k hk => absurd hk (Nat.not_lt_zero _)⟩
      · rintro j w hj ⟨kw, fw, ew, aw⟩ ih
        refine x_mo_keepsTold_126 (pk_le 64 j (fun q => by omega) (fun _ => ⟨vp_in_nI (by omega) (by decide), ?_⟩))
        rw [nI_clamp (by omega), nI_1]
        refine s_mo_keeps kw (by omega) (fun t => by rw [(lh kw t).1 129 (by decide)]; exact (lv t).2.2.2 j hj) fun v1 p1 f1 e1 => ⟨vp_in_nI (by omega) (by decide), fe (fe ?_)⟩
        refine ih _ ⟨KP_ha (by decide) (fun t => (lv t).2.2.2 j hj) p1, fr_tr fw (fr_tr (fr_mo f1 (fun k q => by omega)) (fr_ha (by omega))), fun s hs => (e1 s hs).trans (ew s hs), fun k hk => ?_⟩
        rw [OW_set, (f1 129 (by decide)).2.1]
        by_cases z : k = j
        · rw [if_pos z, z]
        · rw [if_neg z]; exact aw k (by omega)
      · rintro w ⟨kw, fw, ew, aw⟩
        refine x_mo_keepsTold_126 (pk_le 64 64 (fun _ => ?_) (fun q => by omega))
        have es : ∀ s, ¬ s = 53 → w.1 112 s = v0.1 112 s := fun s hs => ((ew s hs).trans (ev' s hs)).trans (ev s hs)
        refine k w kw ⟨⟨by rw [es 6 (by decide)]; exact b6, by rw [es 32 (by decide)]; exact b32, by rw [es 34 (by decide)]; exact b34, by rw [es 36 (by decide)]; exact b36⟩, fun k hk => ?_, fun k hk => ?_, aw⟩ ?_ (fun s h53 h6 h32 h34 h36 => (es s h53).trans (bf s h53 h6 h32 h34 h36))
        · rw [(fw 116 (by decide)).2.1, (fv' 116 (by decide)).2.1, (fw 130 (by decide)).2.1, (fv' 130 (by decide)).2.1]; exact av k hk
        · rw [(fw 128 (by decide)).2.1]; exact av' k hk
        · exact fr_tr (fr_mo bF (fun k q => by omega)) (fr_tr (fr_mo fv (fun k q => by omega)) (fr_tr (fr_mo fv' (fun k q => by omega)) (fr_mo fw (fun k q => by omega))))
end IMG
