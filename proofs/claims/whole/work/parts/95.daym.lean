/-! a day, the reference -/
theorem heldN_r {v : Int32} {m : Nat} (hm : m < 2 ^ 31) : ∃ t, t ≤ m ∧ heldN v (nI m) = nI t := by
  unfold heldN
  by_cases q : (0 : Int32) < (if v < nI m then v else nI m)
  · rw [if_pos q]
    refine of05 hm ⟨Int32.le_of_lt q, ?_⟩
    by_cases z : v < nI m
    · rw [if_pos z]; exact Int32.le_of_lt z
    · rw [if_neg z]; exact Int32.le_refl _
  · rw [if_neg q]; exact ⟨0, Nat.zero_le _, rfl⟩
theorem cre_r (w : gk_WV) (T : gT) (p : Nat) (wt : Int32) : ∃ t, t ≤ 1000 ∧ cre w T p wt = nI t := heldN_r (m := 1000) (by decide)
theorem crL_low {th : Bool} {s : gS} {p : Nat} : ∀ c, c ≤ 64 → ∀ i, c ≤ i → i < 64 → nb_bitL (crL th s p c).2 i = false := by
  intro c
  induction c with
  | zero => intro _ i _ _; exact bL_0 i
  | succ c ih =>
    intro hc i hi h64
    have e := ih (by omega) i (by omega) h64
    rw [crL]
    split
    · split
      · show nb_bitL ((crL th s p c).2 ||| _) i = false
        rw [bL_or, e, bL_one (by omega), decide_eq_false (by omega)]; rfl
      · exact e
    · exact e
theorem ones_set {g : Int64} {c : Nat} (hc : c < 64) (hb : nb_bitL g c = false) : nb_onesL (g ||| ((1 : Int64) <<< ((nI c).toInt64 &&& 63))) = nb_onesL g + 1 := by
  have := nb_cnt_clear (f := nb_bitL g) (g := nb_bitL (g ||| ((1 : Int64) <<< ((nI c).toInt64 &&& 63)))) (k := c) (n := 64) (fun i hi => ?_) ?_
  · rw [if_pos hc] at this; exact this
  · rw [bL_or, bL_one hc]
    by_cases q : i = c
    · rw [q, hb]; simp
    · simp [q]
  · rw [bL_or, bL_one hc]; simp
theorem MWr_rows {u u' : gk_H} {w : gk_WV} {p : Nat} {y : Int64} (hp : p < 10) (m : MWr u w) (g : goodW (wD w p y)) (f : fr (fun k => k = 113) u u') (e1 : ∀ j, ¬ (51 + 8 * p ≤ j ∧ j < 51 + 8 * p + 8) → u'.2.1 113 j = u.2.1 113 j) (e2 : ∀ t, t < 8 → u'.2.1 113 (51 + 8 * p + t) = lr y t) : MWr u' (wD w p y) := by
  obtain ⟨⟨r0, -, r1, r2, r3, r4, r5, r6, r7⟩, my⟩ := m
  have n : ∀ j, ¬ (51 + 8 * p ≤ j ∧ j < 51 + 8 * p + 8) → j < 131 → rv u' 113 0 j = rv u 113 0 j := fun j h1 h2 => by rw [rv_at h2, rv_at h2]; exact e1 j h1
  refine ⟨⟨⟨rfl, rfl⟩, g, (n _ (by omega) (by omega)).trans r1, (n _ (by omega) (by omega)).trans r2, (n _ (by omega) (by omega)).trans r3, (n _ (by omega) (by omega)).trans r4, (n _ (by omega) (by omega)).trans r5, fun k hk => (n _ (by omega) (by omega)).trans (r6 k hk), fun q hq => ?_⟩, fun q hq => by rw [(f 116 (by decide)).2.1]; exact my q hq⟩
  obtain ⟨a1, a2, a3, a4, a5⟩ := r7 q hq
  refine ⟨(n _ (by omega) (by omega)).trans a1, (n _ (by omega) (by omega)).trans a2, (n _ (by omega) (by omega)).trans a3, (n _ (by omega) (by omega)).trans a4, fun k hk => ?_⟩
  show _ = lr (if q = p then y else w.2.1 q) k
  by_cases e : q = p
  · rw [if_pos e, rv_at (by omega), e]; exact e2 k hk
  · rw [if_neg e]; exact (n _ (by omega) (by omega)).trans (a5 k hk)
section DY
variable {E : gk_E} {d : Nat} {h : gk_H} {s : gS} {n : Nat} {th : Bool} {p : Nat}
theorem s_mo_isShown {K : Int32 → gk_H → Prop} {w : gk_WV} (hp : p < 10) (m : MWr h w) (hk : K (nb_b (shB w p)) h) : gk_ci E (d + 1) jmo_isShown [.ref 112, .int (nI p)] h K := by
  refine gk_ci_mk (x_mo_isShown ?_)
  unfold w_mo_isShown
  rw [show (21 : Int32) + nI p = nI (21 + p) from nI_add 21 p, show (11 : Int32) + nI p = nI (11 + p) from nI_add 11 p, nI_clamp (n := 21 + p) (by omega), nI_clamp (n := 11 + p) (by omega), (MW_p m hp).1, (MW_p m hp).2.1]
  unfold shB at hk
  refine ⟨vp_in_nI (by omega) (by decide), bsel1 (fun b => ⟨Or.inl rfl, ?_⟩) (fun b => ⟨vp_in_nI (by omega) (by decide), ?_⟩)⟩
  · rw [b] at hk; exact hk
  · rw [b] at hk
    obtain ⟨-, -, -, -, hh, -⟩ := MW_g m
    rcases hh p hp with z | ⟨r, hr, z⟩
    · rw [z] at hk ⊢
      exact yT (by decide) ⟨Or.inl rfl, hk⟩
    · have ne : ¬ nI r = -1 := fun q => by have := nI_pos (n := r) (by omega); rw [q] at this; exact absurd (by decide) this
      rw [z, decide_eq_false ne] at hk
      rw [z, nI_1]
      exact yF (fun q => by have := (nI_leI (a := r + 1) (b := 0) (by omega) (by decide)).mp q; omega) ⟨Or.inr rfl, hk⟩
theorem s_mo_creepsOn {K : Int32 → gk_H → Prop} (hp : p < n) (m : MS n th h s) (g : gd n s) (k : ∀ h', MS n th h' (crP th p s) → fr SM h h' → K (nI (crN th s p)) h') : gk_ci E (d + 7) jmo_creepsOn [.ref 112, .int (nI p)] h K := by
  have hn := g.1.1.1
  have c1 : (1 : Int32).toNatClampNeg = 1 := by decide
  refine gk_ci_mk (x_mo_creepsOn (fe (fe ?_)))
  refine lp_up (N := 8) (fun r (u : gk_H) => g_mo_creepsOn_4 E (d + 6) (gk_qi K) (nI p) 0 (nI r) u) (fun r u => MS n th u s ∧ fr SM h u ∧ ∀ t, t < r → u.2.1 133 t = 0) ?_ ?_ 0 h (by decide) ⟨m, fr_rf, fun t ht => absurd ht (Nat.not_lt_zero _)⟩
  · rintro r u hr ⟨mu, fu, hu⟩ ih
    refine x_mo_creepsOn_4 (pk_le 8 r (fun q => by omega) (fun _ => ⟨vp_in_nI hr (by decide), fe (fe ?_)⟩))
    rw [nI_1, nI_clamp (by omega)]
    have F : fr (fun k => k = 133) u (gk_ha u 133 r 0) := fr_ha rfl
    refine ih _ ⟨MS_fr F (fun k h1 h2 q => by omega) mu, fr_tr fu (fr_mo F (fun k q => by unfold SM; omega)), fun t ht => ?_⟩
    rw [OW_set]
    by_cases z : t = r
    · rw [if_pos z]
    · rw [if_neg z]; exact hu t (by omega)
  · rintro u ⟨mu, fu, hu⟩
    refine x_mo_creepsOn_4 (pk_le 8 8 (fun _ => fe ?_) (fun q => by omega))
    have z0 : nI (nb_onesL (crL th s p 0).2) = 0 := by
      show nI (nb_onesL 0) = 0
      rw [ones_0]; rfl
    have go : g_mo_creepsOn_25 E (d + 6) (gk_qi K) (nI p) (nI (nb_onesL (crL th s p 0).2)) (nI 0) u := by
      refine lp_up (N := 64) (fun c (u : gk_H) => g_mo_creepsOn_25 E (d + 6) (gk_qi K) (nI p) (nI (nb_onesL (crL th s p c).2)) (nI c) u) (fun c u => MS n th u (wF s.1 6 (crL th s p c).1, s.2) ∧ fr SM h u ∧ OW u 133 (crL th s p c).2) ?_ ?_ 0 u (by decide) ⟨?_, fu, fun r hr => ?_⟩
      · rintro c u hc ⟨mu, fu, ou⟩ ih
        have ec := crL.eq_2 th s p c
        have e1 : nI c / 8 = nI (c / 8) := pk_div (d := 8) (by omega) (by omega) (by omega)
        have e2 : nI c - nI c / 8 * 8 = nI (c % 8) := pk_rem (d := 8) (by omega) (by omega) (by omega)
        have mg : MG u p (s.1.2.1 p) := (MW_p mu.1 (p := p) (by omega)).2.2.2.2
        have NS : ∀ u2 x', crL th s p (c + 1) = (x', (crL th s p c).2) → MS n th u2 (wF s.1 6 x', s.2) → fr SM h u2 → OW u2 133 (crL th s p c).2 → g_mo_creepsOn_25 E (d + 6) (gk_qi K) (nI p) (nI (nb_onesL (crL th s p c).2)) (nI (c + 1)) u2 := by
          intro u2 x' e m2 f2 o2
          have := ih u2 ⟨by rw [e]; exact m2, f2, by rw [e]; exact o2⟩
          rw [e] at this
          exact this
        have HS : ∀ u2 x', crL th s p (c + 1) = (x', (crL th s p c).2 ||| ((1 : Int64) <<< ((nI c).toInt64 &&& 63))) → MS n th u2 (wF s.1 6 x', s.2) → fr SM h u2 → OW u2 133 (crL th s p c).2 → g_mo_creepsOn_25 E (d + 6) (gk_qi K) (nI p) (nI (nb_onesL (crL th s p c).2) + 1) (nI (c + 1)) (gk_ha u2 133 (c / 8) (u2.2.1 133 (c / 8) ||| ((1 : Int32) <<< (nI (c % 8) &&& 31)))) := by
          intro u2 x' e m2 f2 o2
          have F : fr (fun k => k = 133) u2 (gk_ha u2 133 (c / 8) (u2.2.1 133 (c / 8) ||| ((1 : Int32) <<< (nI (c % 8) &&& 31)))) := fr_ha rfl
          have := ih _ ⟨by rw [e]; exact MS_fr F (fun k h1 h2 q => by omega) m2, fr_tr f2 (fr_mo F (fun k q => by unfold SM; omega)), by
            rw [e]
            intro r hr
            show _ = lr ((crL th s p c).2 ||| ((1 : Int64) <<< ((nI c).toInt64 &&& 63))) r
            rw [OW_set, lr_or, lr_one hc hr]
            by_cases z : r = c / 8
            · rw [if_pos z, if_pos z, o2 _ (by omega), z]
            · rw [if_neg z, if_neg z, o2 r hr]
              exact (bI_ext fun i hi => by rw [bI_or, bI_0, Bool.or_false]).symm⟩
          rw [e] at this
          have o := ones_set hc (crL_low (th := th) (s := s) (p := p) c (by omega) c (Nat.le_refl _) hc)
          rw [nI_1, ← o]
          exact this
        refine x_mo_creepsOn_25 (pk_le 64 c (fun q => by omega) (fun _ => s_mo_dryCell (by omega) hc mg ?_))
        rw [nI_1]
        refine bsel (fun b => fe ?_) (fun b => s_mo_wetBeside (by omega) hc mg ?_)
        · rw [if_neg (fun z => by rw [z.1] at b; cases b)] at ec
          exact NS u (crL th s p c).1 ec mu fu ou
        · by_cases w0 : wet (nb_bitL (s.1.2.1 p)) c = 0
          · rw [if_neg (fun z => z.2 w0)] at ec
            exact zT (by rw [w0]; rfl) (fe (NS u (crL th s p c).1 ec mu fu ou))
          · rw [if_pos ⟨b, w0⟩] at ec
            have w4 := wet_4 (f := nb_bitL (s.1.2.1 p)) (c := c)
            refine zF (nI_ne0 (by omega) (by omega)) ((s_mo_tells (w := wF s.1 6 (crL th s p c).1) (T := s.2) (by omega) mu.1 mu.2.1 g.2).2.2 c _ hc fun u1 f1 => ?_)
            have m1 : MS n th u1 (wF s.1 6 (crL th s p c).1, s.2) := MS_fr f1 (fun k h1 h2 q => by unfold S_as at q; omega) mu
            have o1 : OW u1 133 (crL th s p c).2 := fun r hr => by rw [(f1 133 (by unfold S_as; omega)).2.1]; exact ou r hr
            have F1 : fr SM h u1 := fr_tr fu (fr_mo f1 SAS)
            obtain ⟨t, ht, et⟩ := cre_r s.1 s.2 p (nI (wet (nb_bitL (s.1.2.1 p)) c))
            rw [et] at ec
            intro o eo
            replace eo : o = nI t := eo.trans et
            rw [eo, e2, e1, nI_clamp (n := c / 8) (by omega)]
            have vp8 : vp_in (nI (c / 8)) 8 := vp_in_nI (by omega) (by decide)
            by_cases t0 : t = 0
            · have hh : hitP th (nI t) (crL th s p c).1 = (false, (crL th s p c).1) := by
                rw [t0]
                unfold hitP
                cases th with
                | true => rw [if_pos rfl]; rfl
                | false => rw [if_neg (by decide), if_pos (by decide)]
              rw [hh] at ec
              replace ec := ec.trans (if_neg (fun z => absurd (show false = true from z) (by decide)))
              exact zT (by rw [t0]; rfl) (fe (NS u1 _ ec m1 F1 o1))
            · refine zF (nI_ne0 (by omega) (by omega)) ?_
              cases th with
              | false =>
                have hh : hitP false (nI t) (crL false s p c).1 = (decide (drN (nx (crL false s p c).1) < nI t), nx (crL false s p c).1) := by
                  unfold hitP
                  rw [if_neg (by decide), if_neg (fun z => by have := (nI_leI (b := 0) (by omega) (by decide)).mp z; omega)]
                rw [hh] at ec
                have e6 : u1.2.1 113 1 = (crL false s p c).1 := (MW_0 m1.1).2.1
                have e6' : (gk_ha u1 113 1 (1664525 * (crL false s p c).1 + 1013904223)).2.1 113 1 = nx (crL false s p c).1 := by rw [ha_a, if_pos ⟨rfl, rfl⟩]; rfl
                refine yT m1.2.2.1 (gk_ci_mk (x_mo_draw ⟨vpi (by decide), vpi (by decide), vpi (by decide), by decide, ?_⟩))
                rw [c1, e6, e6']
                have F : fr (fun k => k = 113) u1 (gk_ha u1 113 1 (1664525 * (crL false s p c).1 + 1013904223)) := fr_ha rfl
                have m2 : MS n false (gk_ha u1 113 1 (1664525 * (crL false s p c).1 + 1013904223)) (wF s.1 6 (nx (crL false s p c).1), s.2) := by
                  refine MS_w (s := (wF s.1 6 (crL false s p c).1, s.2)) F m1 ?_
                  have := MU_F (i := 6) (j := 1) (x := nx (crL false s p c).1) (by omega) m1.1 (GW_to (GW_F (by decide) (GW_F (by decide) g.1)))
                  have e9 : wF (wF s.1 6 (crL false s p c).1) 6 (nx (crL false s p c).1) = wF s.1 6 (nx (crL false s p c).1) := wF_2
                  rw [← e9]
                  exact this
                have o2 : OW (gk_ha u1 113 1 (1664525 * (crL false s p c).1 + 1013904223)) 133 (crL false s p c).2 := fun r hr => by rw [(F 133 (by decide)).2.1]; exact o1 r hr
                have F2 := fr_tr F1 (fr_mo F S113)
                refine ⟨fun q => ⟨by decide, by decide, vp8, by decide, vp8, fe (fe (fe (HS _ _ ?_ m2 F2 o2)))⟩, fun q => fe (NS _ _ ?_ m2 F2 o2)⟩
                · exact ec.trans (if_pos (decide_eq_true (p := drN (nx (crL false s p c).1) < nI t) q))
                · exact ec.trans (if_neg (fun z => q (of_decide_eq_true (p := drN (nx (crL false s p c).1) < nI t) z)))
              | true =>
                have hh : hitP true (nI t) (crL true s p c).1 = (!decide (nI t < 500), (crL true s p c).1) := by unfold hitP; rw [if_pos rfl]
                rw [hh] at ec
                rw [show (2 : Int32) * nI t = nI (2 * t) from nI_mulN 2 t]
                refine yF (by rw [m1.2.2.1]; decide) (pk_le 1000 (2 * t) (fun q => ⟨by decide, by decide, vp8, by decide, vp8, fe (fe (fe (HS _ _ ?_ m1 F1 o1)))⟩) (fun q => fe (NS _ _ ?_ m1 F1 o1)))
                · rw [ec, if_pos]
                  rw [decide_eq_false (fun z => by have := (nI_ltI (a := t) (b := 500) (by omega) (by decide)).mp z; omega)]; rfl
                · have y : decide (nI t < 500) = true := decide_eq_true ((nI_ltI (a := t) (b := 500) (by omega) (by decide)).mpr (by omega))
                  refine ec.trans (if_neg (fun z => ?_))
                  have z : (!decide (nI t < 500)) = true := z
                  rw [y] at z; cases z
      · rintro u ⟨mu, fu, ou⟩
        refine x_mo_creepsOn_25 (pk_le 64 64 (fun _ => fe ?_) (fun q => by omega))
        have mg : MG u p (s.1.2.1 p) := (MW_p mu.1 (p := p) (by omega)).2.2.2.2
        refine lp_up (N := 8) (fun r (u' : gk_H) => g_mo_creepsOn_140 E (d + 6) (gk_qi K) (nI p) (nI (nb_onesL (crL th s p 64).2)) (nI r) u') (fun r u' => fr (fun k => k = 113) u u' ∧ (∀ j, ¬ (51 + 8 * p ≤ j ∧ j < 51 + 8 * p + r) → u'.2.1 113 j = u.2.1 113 j) ∧ ∀ t, t < r → u'.2.1 113 (51 + 8 * p + t) = lr (s.1.2.1 p &&& ((crL th s p 64).2 ^^^ (-1 : Int64))) t) ?_ ?_ 0 u (by decide) ⟨fr_rf, fun _ _ => rfl, fun t ht => absurd ht (Nat.not_lt_zero _)⟩
        · rintro r u' hr ⟨f', a1, a2⟩ ih
          refine x_mo_creepsOn_140 (pk_le 8 r (fun q => by omega) (fun _ => s_mo_rowAt (s_mo_rowAt ⟨vp_in_nI (by omega) (by decide), vp_in_nI (by omega) (by decide), vp_in_nI (by omega) (by decide), fe (fe ?_)⟩)))
          rw [nI_1, nI_clamp (n := 51 + 8 * p + r) (by omega), nI_clamp (n := r) (by omega), a1 (51 + 8 * p + r) (by omega), mg r hr, (f' 133 (by decide)).2.1, ou r hr, ← lr_and hr]
          refine ih _ ⟨fr_tr f' (fr_ha rfl), fun j hj => ?_, fun t ht => ?_⟩
          · rw [OW_set, if_neg (by omega)]; exact a1 j (by omega)
          · rw [OW_set]
            by_cases z : t = r
            · rw [if_pos (by omega), z]
            · rw [if_neg (by omega)]; exact a2 t (by omega)
        · rintro u' ⟨f', a1, a2⟩
          have g2 : GW n (crW th s p) := GW_F (by decide) (GW_D hp g.1)
          have mw : MWr u' (crW th s p) := MWr_rows (w := wF s.1 6 (crL th s p 64).1) (p := p) (y := s.1.2.1 p &&& ((crL th s p 64).2 ^^^ (-1 : Int64))) (by omega) mu.1 (GW_to g2) f' (fun j hj => a1 j hj) a2
          have m' : MS n th u' (crW th s p, s.2) := MS_w (s := (wF s.1 6 (crL th s p 64).1, s.2)) f' mu mw
          have F := fr_tr fu (fr_mo f' S113)
          have o64 : nb_onesL (crL th s p 64).2 ≤ 64 := nb_cnt_le _ _
          refine x_mo_creepsOn_140 (pk_le 8 8 (fun _ => pk_le (nb_onesL (crL th s p 64).2) 0 (fun q => k u' ?_ F) (fun q => s_mo_notes m' g2 fun h' m'' f'' => k h' ?_ (fr_tr F f''))) (fun q => by omega))
          · unfold crP; rw [if_pos (show crN th s p = 0 by unfold crN; omega)]; exact m'
          · unfold crP; rw [if_neg (show ¬ crN th s p = 0 by unfold crN; omega)]; exact m''
      · show MS n th u (wF s.1 6 (s.1.1 6), s.2)
        rw [wF_id]; exact mu
      · rw [hu r hr]
        have lz : ∀ r, r < 8 → lr 0 r = 0 := by decide +kernel
        exact (lz r hr).symm
    rw [z0] at go
    exact go
end DY
