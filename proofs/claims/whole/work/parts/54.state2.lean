/-! state and purse -/
def S_told (k : Nat) : Prop := S_back k ∨ S_mback k
/-- the rest does not read what is told to the world and to the row -/
def RestOk {P : Type} (Rest : P → gk_H → Prop) : Prop := ∀ c h h', Rest c h → fr S_told h h' → (∀ s, ¬ s = 0 → ¬ s = 3 → h'.1 112 s = h.1 112 s) → Rest c h'
theorem inv_set {good : gk_WV → Prop} {Rest : Int32 × (Nat → Int32) → gk_H → Prop} {c : Int32 × (Nat → Int32)} {h h' : gk_H} {f n i j : Nat} {x : Int32} {ws : Nat → gk_WV} (hR : RestOk Rest) (hc : cU h f n ws) (hw : wRel good c (wv h 1) (rv h 113 0)) (hrest : Rest c h) (hij : (i = 5 ∧ j = 0) ∨ (i = 6 ∧ j = 1) ∨ (i = 7 ∧ j = 2) ∨ (i = 3 ∧ j = 3) ∨ (i = 4 ∧ j = 4)) (g : good (fun s => if s = i then x else (wv h 1).1 s, (wv h 1).2))
    (q1 : wv h' 1 = (fun s => if s = i then x else (wv h 1).1 s, (wv h 1).2)) (q2 : rv h' 113 0 = fun k => if k = j then x else rv h 113 0 k) (q3 : h'.1 20 1 = h.1 20 1) (q4 : h'.1 20 2 = nI 0) (q5 : h'.1 112 3 = nI 0) (q6 : fr S_told h h') (q7 : ∀ s, ¬ s = 0 → ¬ s = 3 → h'.1 112 s = h.1 112 s) : InvU (wRel good) Rest h' :=
  ⟨c, f, 0, ws, fun _ _ => 0, ⟨hc.1, Nat.zero_le _, q3.trans hc.2.2.1, q4, fun i hi => absurd hi (Nat.not_lt_zero _)⟩, ⟨Nat.zero_le _, q5, fun i hi => absurd hi (Nat.not_lt_zero _)⟩, fun i hi => absurd hi (Nat.not_lt_zero _), by rw [q1, q2]; exact wRel_set hij hw g, hR c h h' hrest q6 q7⟩
theorem t1 : S_told 1 := Or.inl (Or.inr ⟨by decide, by decide⟩)
theorem t20 : S_told 20 := Or.inl (Or.inl rfl)
theorem t112 : S_told 112 := Or.inr (Or.inl rfl)
theorem t113 : S_told 113 := Or.inr (Or.inr rfl)
theorem inv_t0 {P : Type} {Rl : P → gk_WV → (Nat → Int32) → Prop} {Rest : P → gk_H → Prop} {h : gk_H} (hR : RestOk Rest) (hI : InvU Rl Rest h) : InvU Rl Rest (gk_hf h 112 0 0) := by
  obtain ⟨c, f, n, ws, rs, hc, hm, hr, hw, hrest⟩ := hI
  have fq : fr (fun k => k = 112) h (gk_hf h 112 0 0) := fr_hf rfl
  refine ⟨c, f, n, ws, rs, cU_fr (fun k hk q => ?_) fq hc, mU_of (by rw [hf_f, if_neg (by decide)]) rfl hm, hr, ?_, hR c h _ hrest (fr_hf t112) (fun s h0 _ => by rw [hf_f, if_neg (fun q => h0 q.2)])⟩
  · rcases hk with q2 | q2
    · rw [q2] at q; exact absurd q (by decide)
    · rw [q] at q2; exact absurd q2.2 (by decide)
  · rw [wv_hf (by decide)]
    exact hw
theorem lc_state {E : gk_E} {d : Nat} {good : gk_WV → Prop} {Rest : Int32 × (Nat → Int32) → gk_H → Prop} (hR : RestOk Rest) (hg : ∀ w x, good w → good (fun s => if s = 6 then x else w.1 s, w.2)) (a0 : Int32) : lc_ok E (d + 2) (InvU (wRel good) Rest) jdp_state jmo_state [.int a0] := by
  intro h hI
  obtain ⟨c, f, n, ws, rs, hc, hm, hr, hw, hrest⟩ := hI
  refine ⟨fun r h1 => r = h.1 1 6 ∧ h1 = gk_hf (gk_hf h 1 6 a0) 20 2 0, fun K1 hK => ?_, fun r h1 hM K2 hK => ?_⟩
  · refine gk_ci_mk (x_dp_state ?_)
    intro x hx
    exact s_ps_forget (hK _ _ ⟨hx, rfl⟩)
  · obtain ⟨er, eh⟩ := hM
    refine gk_ci_mk (x_mo_state ?_)
    intro h2 q2
    refine ⟨nI_in (c := 1) (by decide) (by decide), fun x hx => ⟨nI_in (c := 1) (by decide) (by decide), fun h3 q3 h4 q4 => ?_⟩⟩
    have e1 : (1 : Int32).toNatClampNeg = 1 := by decide
    rw [e1] at hx q3
    have ex : x = r := by
      rw [hx, q2, eh, er]
      have z := hw.2.2.2.1
      exact z
    rw [ex]
    refine hK _ ?_
    rw [q4, q3, q2, eh]
    refine inv_set hR hc hw hrest (i := 6) (j := 1) (x := a0) (Or.inr (Or.inl ⟨rfl, rfl⟩)) (hg _ _ hw.2.1) ?_ ?_ ?_ ?_ ?_ ?_ ?_
    · rw [wv_hf (by decide), ← wv_set (by decide), wv_fr (S := fun k => k = 113) (fr_ha rfl) (fun i hi => by omega), wv_hf (by decide), wv_hf (by decide)]
    · have := rv_set (h := gk_hf (gk_hf (gk_hf h 1 6 a0) 20 2 0) 112 0 0) (k := 113) (o := 0) (i := 1) (x := a0) (by decide)
      exact this
    · rw [hf_f, if_neg (by decide), ha_1, hf_f, if_neg (by decide), hf_f, if_neg (by decide), hf_f, if_neg (by decide)]
    · rw [hf_f, if_neg (by decide), ha_1, hf_f, if_neg (by decide), hf_f, if_pos ⟨rfl, rfl⟩]; rfl
    · rw [hf_f, if_pos ⟨rfl, rfl⟩]; rfl
    · exact fr_tr (fr_tr (fr_tr (fr_tr (fr_hf t1) (fr_hf t20)) (fr_hf t112)) (fr_ha t113)) (fr_hf t112)
    · intro s h0 h3
      rw [hf_f, if_neg (fun q => h3 q.2), ha_1, hf_f, if_neg (fun q => h0 q.2), hf_f, if_neg (fun q => absurd q.1 (by decide)), hf_f, if_neg (fun q => absurd q.1 (by decide))]
theorem lc_purse {E : gk_E} {d : Nat} {good : gk_WV → Prop} {Rest : Int32 × (Nat → Int32) → gk_H → Prop} (hR : RestOk Rest) (hg : ∀ w x, good w → 0 ≤ x → x ≤ 99999 → good (fun s => if s = 3 then x else w.1 s, w.2)) (a0 : Int32) : lc_ok E (d + 2) (InvU (wRel good) Rest) jdp_purse jmo_purse [.int a0] := by
  intro h hI
  have hI0 := hI
  obtain ⟨c, f, n, ws, rs, hc, hm, hr, hw, hrest⟩ := hI
  by_cases hin : 0 ≤ a0 ∧ a0 ≤ 99999
  · have eb : nb_b (decide ((0 : Int32) ≤ a0) && decide (a0 ≤ 99999)) = 1 := by rw [decide_eq_true hin.1, decide_eq_true hin.2]; rfl
    refine ⟨fun r h1 => r = 1 ∧ h1 = gk_hf (gk_hf h 20 2 0) 1 3 a0, fun K1 hK => ?_, fun r h1 hM K2 hK => ?_⟩
    · refine gk_ci_mk (x_dp_purse ?_)
      unfold w_dp_purse
      refine s_dp_isWithin ?_
      rw [eb]
      exact ⟨fun _ => s_ps_forget ⟨Or.inr rfl, hK _ _ ⟨rfl, rfl⟩⟩, fun q => absurd q (by decide)⟩
    · obtain ⟨er, eh⟩ := hM
      refine gk_ci_mk (x_mo_purse ?_)
      intro h2 q2
      refine s_mo_isIn ?_
      rw [eb]
      refine ⟨fun _ => ⟨nI_in (c := 3) (by decide) (by decide), fun h3 q3 h4 q4 => ⟨Or.inr rfl, ?_⟩⟩, fun q => absurd q (by decide)⟩
      have e1 : (3 : Int32).toNatClampNeg = 3 := by decide
      rw [e1] at q3
      rw [er] at hK
      refine hK _ ?_
      rw [q4, q3, q2, eh]
      refine inv_set hR hc hw hrest (i := 3) (j := 3) (x := a0) (Or.inr (Or.inr (Or.inr (Or.inl ⟨rfl, rfl⟩)))) (hg _ _ hw.2.1 hin.1 hin.2) ?_ ?_ ?_ ?_ ?_ ?_ ?_
      · rw [wv_hf (by decide), wv_fr (S := fun k => k = 113) (fr_ha rfl) (fun i hi => by omega), wv_hf (by decide), wv_set (by decide), wv_hf (by decide)]
      · have := rv_set (h := gk_hf (gk_hf (gk_hf h 20 2 0) 1 3 a0) 112 0 0) (k := 113) (o := 0) (i := 3) (x := a0) (by decide)
        exact this
      · rw [hf_f, if_neg (by decide), ha_1, hf_f, if_neg (by decide), hf_f, if_neg (by decide), hf_f, if_neg (by decide)]
      · rw [hf_f, if_neg (by decide), ha_1, hf_f, if_neg (by decide), hf_f, if_neg (by decide), hf_f, if_pos ⟨rfl, rfl⟩]; rfl
      · rw [hf_f, if_pos ⟨rfl, rfl⟩]; rfl
      · exact fr_tr (fr_tr (fr_tr (fr_tr (fr_hf t20) (fr_hf t1)) (fr_hf t112)) (fr_ha t113)) (fr_hf t112)
      · intro s h0 h3
        rw [hf_f, if_neg (fun q => h3 q.2), ha_1, hf_f, if_neg (fun q => h0 q.2), hf_f, if_neg (fun q => absurd q.1 (by decide)), hf_f, if_neg (fun q => absurd q.1 (by decide))]
  · have eb : nb_b (decide ((0 : Int32) ≤ a0) && decide (a0 ≤ 99999)) = 0 := by
      by_cases q1 : (0 : Int32) ≤ a0
      · have q2 : ¬ a0 ≤ 99999 := fun q => hin ⟨q1, q⟩
        rw [decide_eq_false q2, Bool.and_false]; rfl
      · rw [decide_eq_false q1]; rfl
    refine ⟨fun r h1 => r = 0 ∧ h1 = h, fun K1 hK => ?_, fun r h1 hM K2 hK => ?_⟩
    · refine gk_ci_mk (x_dp_purse ?_)
      unfold w_dp_purse
      refine s_dp_isWithin ?_
      rw [eb]
      exact ⟨fun q => absurd rfl q, fun _ => ⟨Or.inl rfl, hK _ _ ⟨rfl, rfl⟩⟩⟩
    · obtain ⟨er, eh⟩ := hM
      refine gk_ci_mk (x_mo_purse ?_)
      intro h2 q2
      refine s_mo_isIn ?_
      rw [eb]
      refine ⟨fun q => absurd rfl q, fun _ => ⟨Or.inl rfl, ?_⟩⟩
      rw [er] at hK
      rw [q2, eh]
      exact hK _ (inv_t0 hR hI0)
