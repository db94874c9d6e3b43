/-! the reference asks THE LAW; of, creeps, buys -/
def MWr (h : gk_H) (w : gk_WV) : Prop := wRel goodW (w.1 0, w.2.2.1) w (rv h 113 0) ∧ ∀ p, p < 10 → h.2.1 116 p = w.2.2.1 p
theorem MWr_fr {S : Nat → Prop} {h h' : gk_H} {w : gk_WV} (a : fr S h h') (h1 : ¬ S 113) (h2 : ¬ S 116) (m : MWr h w) : MWr h' w := by
  have er : rv h' 113 0 = rv h 113 0 := rv_eq fun j _ => by rw [(a 113 h1).2.1]
  exact ⟨by rw [er]; exact m.1, by rw [(a 116 h2).2.1]; exact m.2⟩
theorem MW_of {h : gk_H} {n : Nat} {w : gk_WV} {T : gT} {X : Nat × Int32 × Int32} (v : Vw h n w T X) : MWr h w := ⟨v.2.2.2.1, v.2.2.2.2.1⟩
theorem MW_0 {h : gk_H} {w : gk_WV} (m : MWr h w) : h.2.1 113 0 = w.1 5 ∧ h.2.1 113 1 = w.1 6 ∧ h.2.1 113 2 = w.1 7 ∧ h.2.1 113 3 = w.1 3 ∧ h.2.1 113 4 = w.1 4 := by
  obtain ⟨-, -, r1, r2, r3, r4, r5, -, -⟩ := m.1
  rw [rv_at (by decide)] at r1 r2 r3 r4 r5
  exact ⟨r1, r2, r3, r4, r5⟩
theorem MW_l {h : gk_H} {w : gk_WV} (m : MWr h w) {r : Nat} (hr : r < 6) : h.2.1 113 (5 + r) = w.2.2.2.2.2 r := by
  obtain ⟨-, -, r1, r2, r3, r4, r5, r6, -⟩ := m.1
  have := r6 r hr
  rwa [rv_at (by omega)] at this
theorem MW_p {h : gk_H} {w : gk_WV} (m : MWr h w) {p : Nat} (hp : p < 10) : h.2.1 113 (11 + p) = w.2.2.2.1 p + 1 ∧ h.2.1 113 (21 + p) = nb_b (nb_bit (w.1 1) p) ∧ h.2.1 113 (31 + p) = nb_b (nb_bit (w.1 2) p) ∧ h.2.1 113 (41 + p) = w.2.2.2.2.1 p ∧ MG h p (w.2.1 p) := by
  obtain ⟨-, -, r1, r2, r3, r4, r5, r6, r7⟩ := m.1
  obtain ⟨a1, a2, a3, a4, a5⟩ := r7 p hp
  rw [rv_at (by omega)] at a1 a2 a3 a4
  refine ⟨a1, a2, a3, a4, fun r hr => ?_⟩
  have := a5 r hr
  rwa [rv_at (by omega)] at this
theorem MW_g {h : gk_H} {w : gk_WV} (m : MWr h w) : goodW w := m.1.2.1
noncomputable def wor (w : gk_WV) (T : gT) (p : Nat) : Int32 := heldN (tell (kn w p 0) 1 (5 * nI (nb_onesL (w.2.1 p)) + w.2.2.1 p) T.2.2.2.2.1) 9999
noncomputable def com (w : gk_WV) (T : gT) (p : Nat) : Int32 := heldN (tell (kn w p 0) 2 (lgt w p + nI (nb_onesL (w.2.1 p)) / 8) T.2.2.2.2.1) 99
noncomputable def cre (w : gk_WV) (T : gT) (p : Nat) (wt : Int32) : Int32 := heldN (tell (kn w p wt) 0 (10 * wt) T.2.2.2.2.1) 1000
def S_as (k : Nat) : Prop := k = 131 ∨ k = 132
section ASK
variable {E : gk_E} {d : Nat} {h : gk_H} {w : gk_WV} {p : Nat}
theorem s_mo_lightOf {K : Int32 → gk_H → Prop} (hp : p < 10) (m : MWr h w) (hk : K (lgt w p) h) : gk_ci E (d + 1) jmo_lightOf [.ref 112, .int (nI p)] h K := by
  obtain ⟨-, -, -, -, hh, -⟩ := MW_g m
  have e := (MW_p m hp).1
  refine gk_ci_mk (x_mo_lightOf ?_)
  unfold w_mo_lightOf
  rw [show (11 : Int32) + nI p = nI (11 + p) from nI_add 11 p, nI_clamp (by omega), e]
  unfold lgt at hk
  refine ⟨vp_in_nI (by omega) (by decide), ?_⟩
  rcases hh p hp with z | ⟨r, hr, z⟩
  · rw [if_pos z] at hk
    rw [z]
    exact zT (by decide) hk
  · have ne : ¬ nI r = -1 := fun q => by have := nI_pos (n := r) (by omega); rw [q] at this; exact absurd (by decide) this
    rw [z, if_neg ne, nI_clamp (by omega)] at hk
    rw [z, nI_1]
    refine zF (nI_ne0 (by omega) (by omega)) ⟨vp_in_nI (by omega) (by decide), ?_⟩
    rw [show (5 : Int32) + nI (r + 1) = nI (5 + r + 1) from nI_add 5 (r + 1), nI_pred, nI_clamp (by omega), MW_l m hr]
    exact ⟨vp_in_nI (by omega) (by decide), hk⟩
theorem s_mo_asks {K : gk_H → Prop} {wt : Int32} (hp : p < 10) (m : MWr h w) (hk : ∀ h', fr (fun k => k = 131) h h' → (∀ i, i < 9 → h'.2.1 131 i = kn w p wt i) → K h') : gk_cv E (d + 5) jmo_asks [.ref 112, .int (nI p), .int wt] h K := by
  have hk := hk _ (k9_fr (h := h) (k := 131)) (k9_at (h := h) (k := 131) (w := w) (p := p) (wt := wt))
  have F : ∀ u, fr (fun k => k = 131) h u → MWr u w := fun u f => MWr_fr f (by decide) (by decide) m
  have v9 : ∀ i, i < 9 → vp_in (nI i) 9 := fun i hi => vp_in_nI hi (by decide)
  have ix : ∀ a, (nI a + nI p) = nI (a + p) := fun a => nI_add a p
  refine gk_cv_mk (x_mo_asks (s_mo_dryOf hp (MW_p m hp).2.2.2.2 ⟨v9 0 (by decide), ?_⟩))
  intro h3 e3
  have f3 : fr (fun k => k = 131) h h3 := by rw [e3]; exact fr_ha rfl
  refine s_mo_edgesOf hp (MW_p (F h3 f3) hp).2.2.2.2 ⟨v9 1 (by decide), ?_⟩
  intro h6 e6
  have f6 : fr (fun k => k = 131) h h6 := by rw [e6]; exact fr_tr f3 (fr_ha rfl)
  have y6 := (F h6 f6).2 p hp
  refine ⟨vp_in_nI hp (by decide), v9 2 (by decide), ?_⟩
  rw [nI_clamp (by omega), y6]
  intro h7 e7
  have f7 : fr (fun k => k = 131) h h7 := by rw [e7]; exact fr_tr f6 (fr_ha rfl)
  refine s_mo_lightOf hp (F h7 f7) ⟨v9 3 (by decide), ?_⟩
  intro h10 e10
  have f10 : fr (fun k => k = 131) h h10 := by rw [e10]; exact fr_tr f7 (fr_ha rfl)
  have i11 : (11 : Int32) + nI p = nI (11 + p) := nI_add 11 p
  have i31 : (31 : Int32) + nI p = nI (31 + p) := nI_add 31 p
  have i41 : (41 : Int32) + nI p = nI (41 + p) := nI_add 41 p
  rw [i11, i31, i41, nI_clamp (n := 11 + p) (by omega), nI_clamp (n := 31 + p) (by omega), nI_clamp (n := 41 + p) (by omega), (MW_p (F h10 f10) hp).1]
  refine ⟨vp_in_nI (by omega) (by decide), v9 4 (by decide), ?_⟩
  intro h11 e11
  have f11 : fr (fun k => k = 131) h h11 := by rw [e11]; exact fr_tr f10 (fr_ha rfl)
  rw [(MW_p (F h11 f11) hp).2.2.1]
  refine ⟨vp_in_nI (by omega) (by decide), v9 5 (by decide), ?_⟩
  intro h12 e12
  have f12 : fr (fun k => k = 131) h h12 := by rw [e12]; exact fr_tr f11 (fr_ha rfl)
  rw [(MW_p (F h12 f12) hp).2.2.2.1]
  refine ⟨vp_in_nI (by omega) (by decide), v9 6 (by decide), ?_⟩
  intro h13 e13
  have f13 : fr (fun k => k = 131) h h13 := by rw [e13]; exact fr_tr f12 (fr_ha rfl)
  have d13 : h13.2.1 113 (0 : Int32).toNatClampNeg = w.1 5 := (MW_0 (F h13 f13)).1
  rw [d13]
  refine ⟨vpi (by decide), v9 7 (by decide), ?_⟩
  intro h14 e14
  refine ⟨v9 8 (by decide), ?_⟩
  intro h15 e15
  rw [e15, e14, e13, e12, e11, e10, e7, e6, e3]
  exact hk
theorem s_mo_tells {T : gT} {n : Nat} (hp : p < 10) (m : MWr h w) (hc : MTl h T) (hT : okT n T) : (∀ K : Int32 → gk_H → Prop, (∀ h', fr S_as h h' → K (wor w T p) h') → gk_ci E (d + 6) jmo_worthOf [.ref 112, .int (nI p)] h K) ∧ (∀ K : Int32 → gk_H → Prop, (∀ h', fr S_as h h' → K (com w T p) h') → gk_ci E (d + 6) jmo_comesOf [.ref 112, .int (nI p)] h K) ∧ (∀ (c : Nat) (K : Int32 → gk_H → Prop), c < 64 → (∀ h', fr S_as h h' → K (cre w T p (nI (wet (nb_bitL (w.2.1 p)) c))) h') → gk_ci E (d + 6) jmo_creepsOf [.ref 112, .int (nI p), .int (nI c)] h K) := by
  have ct : ∀ u, fr (fun k => k = 131) h u → MTl u T := fun u f => MTl_eq (fun k h1 h2 => (f k (by omega)).2.1) (by rw [(f 112 (by decide)).1]) (by rw [(f 112 (by decide)).1]) (by rw [(f 112 (by decide)).1]) hc
  have tr : ∀ u u', fr (fun k => k = 131) h u → fr (fun k => k = 132) u u' → fr S_as h u' := fun u u' f g => fr_tr (fr_mo f (fun k q => Or.inl q)) (fr_mo g (fun k q => Or.inr q))
  refine ⟨fun K hk => ?_, fun K hk => ?_, fun c K h64 hk => ?_⟩
  · refine gk_ci_mk (x_mo_worthOf (s_mo_asks hp m fun u f kk => ⟨vpi (by decide), vp_in_nI hp (by decide), ?_⟩))
    have e0 : u.2.1 131 (0 : Int32).toNatClampNeg = nI (nb_onesL (w.2.1 p)) := kk 0 (by decide)
    rw [e0, nI_clamp (by omega), (f 116 (by decide)).2.1, m.2 p hp]
    exact s_mo_lawTells (by decide) (ct u f) hT kk fun u' g => hk u' (tr u u' f g)
  · refine gk_ci_mk (x_mo_comesOf (s_mo_asks hp m fun u f kk => ⟨vpi (by decide), vpi (by decide), by decide, ?_⟩))
    have e0 : u.2.1 131 (0 : Int32).toNatClampNeg = nI (nb_onesL (w.2.1 p)) := kk 0 (by decide)
    have e3 : u.2.1 131 (3 : Int32).toNatClampNeg = lgt w p := kk 3 (by decide)
    rw [e0, e3]
    exact s_mo_lawTells (by decide) (ct u f) hT kk fun u' g => hk u' (tr u u' f g)
  · refine gk_ci_mk (x_mo_creepsOf (s_mo_wetBeside hp h64 (MW_p m hp).2.2.2.2 (s_mo_asks hp m fun u f kk => ⟨vpi (by decide), ?_⟩)))
    have e8 : u.2.1 131 (8 : Int32).toNatClampNeg = nI (wet (nb_bitL (w.2.1 p)) c) := kk 8 (by decide)
    rw [e8]
    exact s_mo_lawTells (by decide) (ct u f) hT kk fun u' g => hk u' (tr u u' f g)
end ASK
theorem Qs_te {h h' : gk_H} (a : fr S_teA h h') : Qs h h' := Qs_fr (fr_mo a (fun k q => by unfold S_teA at q; unfold scr; omega))
theorem Qs_as {h h' : gk_H} (a : fr S_as h h') : Qs h h' := Qs_134 (fun k q => by unfold S_as at q; omega) a
theorem lc_creeps {E : gk_E} {d : Nat} (a0 a1 : Int32) : lc_ok E (d + 7) InvX jdp_creeps jmo_creeps [.int a0, .int a1] := by
  refine lc_q fun n w T X hn hw0 hgw hT => ?_
  by_cases ha : ∃ q, q < n ∧ a0 = nI q
  · obtain ⟨p, hp, rfl⟩ := ha
    by_cases hb : (0 : Int32) ≤ a1 ∧ a1 ≤ 63
    · obtain ⟨c, hc, rfl⟩ := of05 (N := 63) (by decide) hb
      have mo : ∀ (x : Int32) (h : gk_H) (K : Int32 → gk_H → Prop), Vw h n w T X → ((nb_bitL (w.2.1 p) c = false → K (-1) (gk_hf h 112 0 0)) ∧ (nb_bitL (w.2.1 p) c = true → gk_ci E (d + 6) jmo_creepsOf [.ref 112, .int (nI p), .int (nI c)] (gk_hf h 112 0 0) K)) → gk_ci E (d + 7) jmo_creeps (.ref 112 :: [.int (nI p), .int (nI c)]) h K := by
        intro x h K v hh
        have v2 := Vw_Qs (Qs_t (x := 0)) v
        exact gk_ci_mk (x_mo_creeps (s_mp1 hn v2.1.2.2 hp (yF (by decide) (s_mc1 hb (yF (by decide) (s_mo_dryCell (by omega) (by omega) (Vw_mp v2 (by omega)).2.2.2.2 (bsel hh.1 hh.2)))))))
      have cl : ∀ (x : Int32) (h : gk_H) (K : Int32 → gk_H → Prop), Vw h n w T X → ((nb_bitL (w.2.1 p) c = false → K (-1) h) ∧ (nb_bitL (w.2.1 p) c = true → gk_ci E (d + 6) jte_chanceIn [.ref 76, .ref 1, .int (nI p), .int (nI (wet (nb_bitL (w.2.1 p)) c))] h K)) → gk_ci E (d + 7) jdp_creeps (.ref 0 :: [.int (nI p), .int (nI c)]) h K := by
        intro x h K v hh
        have vp : vp_in (nI p) 10 := vp_in_nI (by omega) (by decide)
        refine gk_ci_mk (x_dp_creeps (s_wh1 hn (Vw_n v) hp (yF (by decide) (s_ce1 hb (yF (by decide) ⟨vp, ?_⟩)))))
        rw [nI_clamp (by omega), Vw_d v (by omega)]
        refine s_gr_isDry (by omega) (bsel2 hh.1 fun q => ⟨vp, ?_⟩)
        rw [Vw_d v (by omega)]
        exact s_gr_wetBeside (by omega) (hh.2 q)
      cases e : nb_bitL (w.2.1 p) c with
      | false => exact ⟨-1, fun h K v k => cl 0 h K v ⟨fun _ => k h Qs_rf, fun q => by rw [e] at q; cases q⟩, fun h K v k => mo 0 h K v ⟨fun _ => k _ Qs_t, fun q => by rw [e] at q; cases q⟩⟩
      | true =>
        refine ⟨cre w T p (nI (wet (nb_bitL (w.2.1 p)) c)), fun h K v k => cl 0 h K v ⟨fun q => (by rw [e] at q; cases q), fun _ => ?_⟩, fun h K v k => mo 0 h K v ⟨fun q => (by rw [e] at q; cases q), fun _ => ?_⟩⟩
        · exact (s_te_tell_1 (by omega) v.2.2.1 hgw v.2.2.2.2.2.2.1 hT).2.2 _ K (fun h' f => k h' (Qs_te f))
        · have v2 := Vw_Qs (Qs_t (x := 0)) v
          exact (s_mo_tells (by omega) (MW_of v2) v2.2.2.2.2.2.2.2.1 hT).2.2 c K (by omega) (fun h' f => k h' (Qs_tr Qs_t (Qs_as f)))
    · refine ⟨-1, fun h K v k => ?_, fun h K v k => ?_⟩
      · exact gk_ci_mk (x_dp_creeps (s_wh1 hn (Vw_n v) hp (yF (by decide) (s_ce0 hb (yT rfl (k h Qs_rf))))))
      · have v2 := Vw_Qs (Qs_t (x := 0)) v
        exact gk_ci_mk (x_mo_creeps (s_mp1 hn v2.1.2.2 hp (yF (by decide) (s_mc0 hb (yT rfl (k _ Qs_t))))))
  · refine ⟨-1, fun h K v k => ?_, fun h K v k => ?_⟩
    · exact gk_ci_mk (x_dp_creeps (s_wh0 hn (Vw_n v) ha (yT rfl (k h Qs_rf))))
    · exact gk_ci_mk (x_mo_creeps (s_mp0 hn (Vw_Qs (Qs_t (x := 0)) v).1.2.2 ha (yT rfl (k _ Qs_t))))
theorem lc_of {E : gk_E} {d : Nat} (a0 a1 : Int32) : lc_ok E (d + 7) InvX jdp_of jmo_of [.int a0, .int a1] := by
  refine lc_q fun n w T X hn hw0 hgw hT => ?_
  by_cases ha : ∃ q, q < n ∧ a0 = nI q
  · obtain ⟨p, hp, rfl⟩ := ha
    have vp : vp_in (nI p) 10 := vp_in_nI (by omega) (by decide)
    by_cases hb : (10 : Int32) ≤ a1 ∧ a1 ≤ 17
    · obtain ⟨j, hj, e⟩ : ∃ j, j < 8 ∧ a1 = nI (10 + j) := by
        obtain ⟨j, hj, rfl⟩ := of05 (N := 17) (by decide) ⟨Int32.le_trans (by decide) hb.1, hb.2⟩
        have := (nI_leI (a := 10) (by decide) (by omega)).mp hb.1
        exact ⟨j - 10, by omega, by rw [show 10 + (j - 10) = j by omega]⟩
      have ej : a1 - 10 = nI j := by
        rw [e]
        have : nI (10 + j) - nI 10 = nI j := by rw [pk_sub (by omega)]; congr 1; omega
        exact this
      refine ⟨lr (w.2.1 p) j, fun h K v k => ?_, fun h K v k => ?_⟩
      · refine gk_ci_mk (x_dp_of (s_wh1 hn (Vw_n v) hp (zF (by decide) (s_wi1 hb (yF (by decide) ⟨vp, ?_⟩)))))
        rw [ej, nI_clamp (by omega), Vw_d v (by omega)]
        exact s_gr_rowOf hj (k h Qs_rf)
      · have v2 := Vw_Qs (Qs_t (x := 0)) v
        refine gk_ci_mk (x_mo_of (s_mp1 hn v2.1.2.2 hp (zF (by decide) (s_in1 hb (yF (by decide) ?_)))))
        rw [ej]
        refine s_mo_rowAt ⟨vp_in_nI (by omega) (by decide), ?_⟩
        rw [nI_clamp (by omega), (Vw_mp v2 (p := p) (by omega)).2.2.2.2 j hj]
        exact k _ Qs_t
    · have cl : ∀ (h : gk_H) (K : Int32 → gk_H → Prop), Vw h n w T X → ((a1 = (0 : Int32) → K (w.2.2.1 p) h) ∧ (¬ a1 = (0 : Int32) → (a1 = (1 : Int32) → K (w.2.2.2.1 p) h) ∧ (¬ a1 = (1 : Int32) → (a1 = (2 : Int32) → K (nb_b (nb_bit (w.1 1) p)) h) ∧ (¬ a1 = (2 : Int32) → (a1 = (3 : Int32) → K (nb_b (nb_bit (w.1 2) p)) h) ∧ (¬ a1 = (3 : Int32) → (a1 = (4 : Int32) → K (w.2.2.2.2.1 p) h) ∧ (¬ a1 = (4 : Int32) → (a1 = (5 : Int32) → gk_ci E (d + 6) jte_worthOf [.ref 76, .ref 1, .int (nI p)] h K) ∧ (¬ a1 = (5 : Int32) → (a1 = (6 : Int32) → gk_ci E (d + 6) jte_comersTo [.ref 76, .ref 1, .int (nI p)] h K) ∧ (¬ a1 = (6 : Int32) → K (-2) h)))))))) → gk_ci E (d + 7) jdp_of (.ref 0 :: [.int (nI p), .int a1]) h K := by
        rintro h K v ⟨k0, k1⟩
        refine gk_ci_mk (x_dp_of (s_wh1 hn (Vw_n v) hp (zF (by decide) (s_wi0 hb (yT rfl ?_)))))
        rw [nI_clamp (by omega), Vw_y v (by omega), Vw_h v (by omega), Vw_p v (by omega)]
        refine ⟨fun q => ⟨vp, k0 q⟩, fun q0 => ⟨fun q => ⟨vp, (k1 q0).1 q⟩, fun q1 => ⟨fun q => s_wo_isOwned_1 (by omega) ?_, fun q2 => ⟨fun q => s_wo_isHosed_1 (by omega) ?_, fun q3 => ⟨fun q => ⟨vp, ((((k1 q0).2 q1).2 q2).2 q3).1 q⟩, fun q4 => ((((k1 q0).2 q1).2 q2).2 q3).2 q4⟩⟩⟩⟩⟩
        · rw [Vw_f v (by decide)]
          have := ((k1 q0).2 q1).1 q
          exact bsel (fun z => by rw [z] at this; exact this) (fun z => by rw [z] at this; exact this)
        · rw [Vw_f v (by decide)]
          have := (((k1 q0).2 q1).2 q2).1 q
          exact bsel (fun z => by rw [z] at this; exact this) (fun z => by rw [z] at this; exact this)
      have mo : ∀ (h : gk_H) (K : Int32 → gk_H → Prop), Vw h n w T X → ((¬ a1 = 0 → ((¬ a1 = (1 : Int32) → ((¬ a1 = (2 : Int32) → ((¬ a1 = (3 : Int32) → ((¬ a1 = (4 : Int32) → ((¬ a1 = (5 : Int32) → ((¬ a1 = (6 : Int32) → K (-2) (gk_hf h 112 0 0)) ∧ (a1 = (6 : Int32) → gk_ci E (d + 6) jmo_comesOf [.ref 112, .int (nI p)] (gk_hf h 112 0 0) K))) ∧ (a1 = (5 : Int32) → gk_ci E (d + 6) jmo_worthOf [.ref 112, .int (nI p)] (gk_hf h 112 0 0) K))) ∧ (a1 = (4 : Int32) → K (w.2.2.2.2.1 p) (gk_hf h 112 0 0)))) ∧ (a1 = (3 : Int32) → K (nb_b (nb_bit (w.1 2) p)) (gk_hf h 112 0 0)))) ∧ (a1 = (2 : Int32) → K (nb_b (nb_bit (w.1 1) p)) (gk_hf h 112 0 0)))) ∧ (a1 = (1 : Int32) → K (w.2.2.2.1 p) (gk_hf h 112 0 0)))) ∧ (a1 = 0 → K (w.2.2.1 p) (gk_hf h 112 0 0))) → gk_ci E (d + 7) jmo_of (.ref 112 :: [.int (nI p), .int a1]) h K := by
        rintro h K v ⟨k1, k0⟩
        have v2 := Vw_Qs (Qs_t (x := 0)) v
        obtain ⟨m1, m2, m3, m4, -⟩ := Vw_mp v2 (p := p) (by omega)
        refine gk_ci_mk (x_mo_of (s_mp1 hn v2.1.2.2 hp (zF (by decide) (s_in0 hb (yT rfl ?_)))))
        rw [show (11 : Int32) + nI p = nI (11 + p) from nI_add 11 p, show (21 : Int32) + nI p = nI (21 + p) from nI_add 21 p, show (31 : Int32) + nI p = nI (31 + p) from nI_add 31 p, show (41 : Int32) + nI p = nI (41 + p) from nI_add 41 p, nI_clamp (n := 11 + p) (by omega), nI_clamp (n := 21 + p) (by omega), nI_clamp (n := 31 + p) (by omega), nI_clamp (n := 41 + p) (by omega), nI_clamp (n := p) (by omega), m1, m2, m3, m4, v2.2.2.2.2.1 p (by omega), Int32.add_sub_cancel]
        refine ⟨fun q0 => ⟨fun q1 => ⟨fun q2 => ⟨fun q3 => ⟨fun q4 => (((((k1 q0).1 q1).1 q2).1 q3).1 q4), fun q => ⟨vp_in_nI (by omega) (by decide), ((((k1 q0).1 q1).1 q2).1 q3).2 q⟩⟩, fun q => ⟨vp_in_nI (by omega) (by decide), (((k1 q0).1 q1).1 q2).2 q⟩⟩, fun q => ⟨vp_in_nI (by omega) (by decide), ((k1 q0).1 q1).2 q⟩⟩, fun q => ⟨vp_in_nI (by omega) (by decide), (k1 q0).2 q⟩⟩, fun q => ⟨vp, k0 q⟩⟩
      by_cases q0 : a1 = 0
      · exact ⟨_, fun h K v k => cl h K v (yT q0 (k h Qs_rf)), fun h K v k => mo h K v (zT q0 (k _ Qs_t))⟩
      by_cases q1 : a1 = 1
      · exact ⟨_, fun h K v k => cl h K v (yF q0 (yT q1 (k h Qs_rf))), fun h K v k => mo h K v (zF q0 (zT q1 (k _ Qs_t)))⟩
      by_cases q2 : a1 = 2
      · exact ⟨_, fun h K v k => cl h K v (yF q0 (yF q1 (yT q2 (k h Qs_rf)))), fun h K v k => mo h K v (zF q0 (zF q1 (zT q2 (k _ Qs_t))))⟩
      by_cases q3 : a1 = 3
      · exact ⟨_, fun h K v k => cl h K v (yF q0 (yF q1 (yF q2 (yT q3 (k h Qs_rf))))), fun h K v k => mo h K v (zF q0 (zF q1 (zF q2 (zT q3 (k _ Qs_t)))))⟩
      by_cases q4 : a1 = 4
      · exact ⟨_, fun h K v k => cl h K v (yF q0 (yF q1 (yF q2 (yF q3 (yT q4 (k h Qs_rf)))))), fun h K v k => mo h K v (zF q0 (zF q1 (zF q2 (zF q3 (zT q4 (k _ Qs_t))))))⟩
      have te : ∀ h : gk_H, Vw h n w T X → _ := fun h v => s_te_tell_1 (E := E) (d := d + 2) (h := h) (p := p) (by omega) v.2.2.1 hgw v.2.2.2.2.2.2.1 hT
      have tm : ∀ h : gk_H, Vw h n w T X → _ := fun h v => s_mo_tells (E := E) (d := d) (h := h) (p := p) (by omega) (MW_of v) v.2.2.2.2.2.2.2.1 hT
      by_cases q5 : a1 = 5
      · exact ⟨wor w T p, fun h K v k => cl h K v (yF q0 (yF q1 (yF q2 (yF q3 (yF q4 (yT q5 ((te h v).1 K (fun h' f => k h' (Qs_te f))))))))), fun h K v k => mo h K v (zF q0 (zF q1 (zF q2 (zF q3 (zF q4 (zT q5 ((tm _ (Vw_Qs (Qs_t (x := 0)) v)).1 K (fun h' f => k h' (Qs_tr Qs_t (Qs_as f))))))))))⟩
      by_cases q6 : a1 = 6
      · exact ⟨com w T p, fun h K v k => cl h K v (yF q0 (yF q1 (yF q2 (yF q3 (yF q4 (yF q5 (yT q6 ((te h v).2.1 K (fun h' f => k h' (Qs_te f)))))))))), fun h K v k => mo h K v (zF q0 (zF q1 (zF q2 (zF q3 (zF q4 (zF q5 (zT q6 ((tm _ (Vw_Qs (Qs_t (x := 0)) v)).2.1 K (fun h' f => k h' (Qs_tr Qs_t (Qs_as f)))))))))))⟩
      · exact ⟨-2, fun h K v k => cl h K v (yF q0 (yF q1 (yF q2 (yF q3 (yF q4 (yF q5 (yF q6 (k h Qs_rf)))))))), fun h K v k => mo h K v (zF q0 (zF q1 (zF q2 (zF q3 (zF q4 (zF q5 (zF q6 (k _ Qs_t))))))))⟩
  · refine ⟨-2, fun h K v k => ?_, fun h K v k => ?_⟩
    · exact gk_ci_mk (x_dp_of (s_wh0 hn (Vw_n v) ha (zT rfl (k h Qs_rf))))
    · exact gk_ci_mk (x_mo_of (s_mp0 hn (Vw_Qs (Qs_t (x := 0)) v).1.2.2 ha (zT rfl (k _ Qs_t))))
