/-! goesBy; act, days -/
theorem s_mo_goesBy {E : gk_E} {d : Nat} {h : gk_H} {s : gS} {n : Nat} {th : Bool} {K : Int32 → gk_H → Prop} (m : MS n th h s) (g : gd n s) (k : ∀ h', MS n th h' (dayS th n s) → fr SM h h' → K (dayC th n s).1 h') : gk_ci E (d + 9) jmo_goesBy [.ref 112] h K := by
  have hn := g.1.1.1
  have h16 : s.2.1.2.1 ≤ 16 := g.2.1.2.1
  have c0 : (0 : Int32).toNatClampNeg = 0 := by decide
  have c4 : (4 : Int32).toNatClampNeg = 4 := by decide
  obtain ⟨g1, s1⟩ := gd_dia (th := th) g _ (Nat.le_refl _)
  have g2 : gd n (dayC th n s).2 := (gd_crA (th := th) g1 n (Nat.le_refl _)).1
  refine gk_ci_mk (x_mo_goesBy (fe ?_))
  refine lp_up (N := s.2.1.2.1) (fun i (u : gk_H) => g_mo_goesBy_2 E (d + 8) (gk_qi K) (nI (4 * i)) u) (fun i u => MS n th u (diaP th s i) ∧ fr SM h u) ?_ ?_ 0 h (Nat.zero_le _) ⟨m, fr_rf⟩
  · rintro i u hi ⟨mu, fu⟩ ih
    obtain ⟨gi, si⟩ := gd_dia (th := th) g i (by omega)
    have ec : u.1 112 34 = nI s.2.1.2.1 := by have := mu.2.1.1.2.1; rw [si.2.1] at this; exact this
    have ed : ∀ j, j < 4 * s.2.1.2.1 → u.2.1 129 j = (diaP th s i).2.2.2.1 j := by have := mu.2.1.2.2.1; rw [si.2.1] at this; exact this
    refine x_mo_goesBy_2 (pk_le (4 * s.2.1.2.1) (4 * i) (fun q => by omega) (fun _ => ?_) (hx := by rw [ec]; exact nI_mulN 4 _))
    rw [show nI (4 * i) + (1 : Int32) = nI (4 * i + 1) from nI_add _ 1, show nI (4 * i) + (2 : Int32) = nI (4 * i + 2) from nI_add _ 2, show nI (4 * i) + (3 : Int32) = nI (4 * i + 3) from nI_add _ 3, show nI (4 * i) + (4 : Int32) = nI (4 * (i + 1)) from nI_add _ 4, nI_clamp (n := 4 * i) (by omega), nI_clamp (n := 4 * i + 1) (by omega), nI_clamp (n := 4 * i + 2) (by omega), nI_clamp (n := 4 * i + 3) (by omega), ed _ (by omega), ed _ (by omega), ed _ (by omega), ed _ (by omega), c0, (MW_0 mu.1).1]
    have id := dOk_isD (gi.2.2.2.1 i (by rw [si.2.1]; exact hi))
    have v1 : vp_in (nI (4 * i + 1)) 128 := vp_in_nI (by omega) (by decide)
    have v2 : vp_in (nI (4 * i + 2)) 128 := vp_in_nI (by omega) (by decide)
    have v3 : vp_in (nI (4 * i + 3)) 128 := vp_in_nI (by omega) (by decide)
    refine ⟨vp_in_nI (by omega) (by decide), vpi (by decide), fun q => fe (ih u ⟨?_, fu⟩), fun q => ⟨v1, v2, v3, s_mo_canAct id mu gi (fun u1 f1 => ?_)⟩⟩
    · have : diaP th s (i + 1) = diaP th s i := by rw [diaP]; unfold entP; rw [if_neg (fun y => q y.1)]
      rw [this]; exact mu
    · have m1 : MS n th u1 (diaP th s i) := MS_fr f1 (fun k h1 h2 q => by unfold S_as at q; omega) mu
      have f2 : fr SM h u1 := fr_tr fu (fr_mo f1 SAS)
      rw [(f1 129 (by unfold S_as; omega)).2.1, ed _ (by omega), ed _ (by omega), ed _ (by omega)]
      refine bsel (fun y => fe (ih u1 ⟨?_, f2⟩)) (fun y => ⟨v1, v2, v3, s_mo_acts id m1 gi (fun u2 m2 f3 => fe (ih u2 ⟨?_, fr_tr f2 f3⟩))⟩)
      · have : diaP th s (i + 1) = diaP th s i := by rw [diaP]; unfold entP; rw [if_neg (fun z => by rw [y] at z; exact absurd z.2 (by decide))]
        rw [this]; exact m1
      · have : diaP th s (i + 1) = doP th ((diaP th s i).2.2.2.1 (4 * i + 1)).toNatClampNeg ((diaP th s i).2.2.2.1 (4 * i + 2)).toNatClampNeg ((diaP th s i).2.2.2.1 (4 * i + 3)).toNatClampNeg (diaP th s i) := by rw [diaP]; unfold entP; rw [if_pos ⟨q, y⟩]
        rw [this]; exact m2
  · rintro u ⟨mu, fu⟩
    have ec : u.1 112 34 = nI s.2.1.2.1 := by have := mu.2.1.1.2.1; rw [s1.2.1] at this; exact this
    refine x_mo_goesBy_2 (pk_le (4 * s.2.1.2.1) (4 * s.2.1.2.1) (fun _ => fe (fe ?_)) (fun q => by omega) (hx := by rw [ec]; exact nI_mulN 4 _))
    refine lp_up (N := n) (fun p (u : gk_H) => g_mo_goesBy_97 E (d + 8) (gk_qi K) (crA th (diaP th s s.2.1.2.1) p).1 (nI p) u) (fun p u => MS n th u (crA th (diaP th s s.2.1.2.1) p).2 ∧ fr SM h u) ?_ ?_ 0 u (Nat.zero_le _) ⟨mu, fu⟩
    · rintro p u hp ⟨mu, fu⟩ ih
      have gp := (gd_crA (th := th) g1 p (by omega)).1
      refine x_mo_goesBy_97 (pk_le n p (fun q => by omega) (fun _ => s_mo_isShown (by omega) mu.1 ?_) (hx := mu.2.2.2))
      rw [nI_1]
      have ec := crA.eq_2 th (diaP th s s.2.1.2.1) p
      refine bsel (fun b => fe ?_) (fun b => s_mo_creepsOn hp mu gp fun u' m' f' => fe (fe ?_))
      · rw [if_neg (by rw [b]; decide)] at ec
        have := ih u ⟨by rw [ec]; exact mu, fu⟩
        rw [ec] at this; exact this
      · rw [if_pos b] at ec
        have := ih u' ⟨by rw [ec]; exact m', fr_tr fu f'⟩
        rw [ec] at this; exact this
    · rintro u ⟨mu, fu⟩
      refine x_mo_goesBy_97 (pk_le n n (fun _ => fe ?_) (fun q => by omega) (hx := mu.2.2.2))
      refine lp_up (N := n) (fun p (u : gk_H) => g_mo_goesBy_129 E (d + 8) (gk_qi K) (dayC th n s).1 (nI p) u) (fun p u => MS n th u (rcA th (dayC th n s).2 p) ∧ fr SM h u) ?_ ?_ 0 u (Nat.zero_le _) ⟨mu, fu⟩
      · rintro p u hp ⟨mu, fu⟩ ih
        have gp := (gd_rcA (th := th) g2 p).1
        refine x_mo_goesBy_129 (pk_le n p (fun q => by omega) (fun _ => s_mo_isShown (by omega) mu.1 ?_) (hx := mu.2.2.2))
        rw [nI_1]
        have ec := rcA.eq_2 th (dayC th n s).2 p
        refine bsel2 (fun b => fe ?_) (fun b => (s_mo_tells (by omega) mu.1 mu.2.1 gp.2).2.1 _ fun u1 f1 => fe ⟨vpi (by decide), vpi (by decide), ?_⟩)
        · rw [if_neg (by rw [b]; decide)] at ec
          exact ih u ⟨by rw [ec]; exact mu, fu⟩
        · rw [if_pos b] at ec
          have m1 : MS n th u1 (rcA th (dayC th n s).2 p) := MS_fr f1 (fun k h1 h2 q => by unfold S_as at q; omega) mu
          rw [c4, (MW_0 m1.1).2.2.2.2]
          have gw1 := GW_F (i := 4) (x := (rcA th (dayC th n s).2 p).1.1 4 + com (rcA th (dayC th n s).2 p).1 (rcA th (dayC th n s).2 p).2 p) (by decide) gp.1
          have gw2 : GW n (rcW (rcA th (dayC th n s).2 p) p) := GW_F (by decide) gw1
          have w1 := MU_F (i := 4) (j := 4) (by omega) m1.1 (GW_to gw1)
          refine fe (s_mo_getsPaid w1 (GW_to gw2) fun u2 w2 f2 => ?_)
          have F := fr_tr (S := fun k => k = 113) (fr_ha (h := u1) (i := 4) (x := (rcA th (dayC th n s).2 p).1.1 4 + com (rcA th (dayC th n s).2 p).1 (rcA th (dayC th n s).2 p).2 p) rfl) f2
          have m2 : MS n th u2 (rcW (rcA th (dayC th n s).2 p) p, (rcA th (dayC th n s).2 p).2) := MS_w F m1 w2
          have F2 : fr SM h u2 := fr_tr fu (fr_tr (fr_mo f1 SAS) (fr_mo F S113))
          refine ⟨fun q => fe (ih u2 ⟨?_, F2⟩), fun q => s_mo_notes m2 gw2 fun u3 m3 f3 => fe (ih u3 ⟨?_, fr_tr F2 f3⟩)⟩
          · rw [ec]; unfold rcP; rw [if_pos q]; exact m2
          · rw [ec]; unfold rcP; rw [if_neg q]; exact m3
      · rintro u ⟨mu, fu⟩
        have gp := (gd_rcA (th := th) g2 n).1
        refine x_mo_goesBy_129 (pk_le n n (fun _ => ⟨vpi (by decide), vpi (by decide), ?_⟩) (fun q => by omega) (hx := mu.2.2.2))
        rw [c0, (MW_0 mu.1).1]
        have F := fr_ha (S := fun k => k = 113) (h := u) (k := 113) (i := 0) (x := (rcA th (dayC th n s).2 n).1.1 5 + 1) rfl
        exact fe (k _ (MS_w F mu (MU_F (i := 5) (j := 0) (by omega) mu.1 (GW_to (GW_F (by decide) gp.1)))) (fr_tr fu (fr_mo F S113)))
/-! closing -/
def S_all (k : Nat) : Prop := free k ∨ k = 19 ∨ k = 117
theorem Rest_T {S : Nat → Prop} {c : Int32 × (Nat → Int32)} {h h' : gk_H} {N : Nat} {T' : gT} (hS : ∀ k, S k → S_all k) (a : fr S h h') (z : same112 h h') (r : RestX c h) (hN : N ≤ 10) (hc : c.1 = nI N) (o : okT N T') (ct : CT h' 7 19 T') (mt : MTl h' T') : RestX c h' := by
  have e : ∀ k, ¬ S_all k → eqc h h' k := fun k hk => a k (fun q => hk (hS k q))
  obtain ⟨z5, z6, z10, z30, z31, z32, z34, z36, z52⟩ := z
  obtain ⟨⟨n, T, l1, l2, l3, l4, l5⟩, ⟨m, t1, t2, t3, t4⟩, ⟨f1, f2⟩, i5, wr, im⟩ := r
  have nf : ∀ k, (7 ≤ k ∧ k ≤ 18) ∨ (58 ≤ k ∧ k ≤ 75) ∨ (93 ≤ k ∧ k ≤ 111) ∨ (118 ≤ k ∧ k ≤ 130) ∨ k = 116 ∨ k = 144 ∨ k = 0 → eqc h h' k := fun k hk => e k (by unfold S_all free; omega)
  have en : n = N := (nI_eq (by omega) (by omega)).mp (l1.2.1.symm.trans hc)
  rw [en] at l1
  refine ⟨⟨N, T', ⟨hN, hc, by rw [z6]; exact l1.2.2⟩, ?_, o, ct, mt⟩, ⟨m, t1, ?_, ?_, ?_⟩, ?_, by rw [z5]; exact i5, ?_, img_eq (nf 0 (by omega)).1 z52 (fun k h1 h2 => nf k (by omega)) (nf 144 (by omega)).2.1 im⟩
  · rw [(nf 116 (by omega)).2.1]; exact l2
  · rw [(nf 58 (by omega)).1]; exact t2
  · rw [z10]; exact t3
  · rw [(nf 59 (by omega)).2.1, (nf 118 (by omega)).2.1]; exact t4
  · rw [(nf 63 (by omega)).1, z30, z31]; exact ⟨f1, f2⟩
  · unfold wordsR; rw [(nf 119 (by omega)).2.1]; exact wr
theorem Inv_of {c : Int32 × (Nat → Int32)} {N f n : Nat} {ws : Nat → gk_WV} {rs : Nat → Nat → Int32} {h h' : gk_H} {s s' : gS} (hrest : RestX c h) (hN : N ≤ 10) (hcN : c.1 = nI N) (cy : s.1.2.2.1 = c.2) (sm : sm0 s s') (gs : gd N s') (cu : cU h' f n ws) (mu : mU h' n rs) (rel : ∀ i, i < n → wRel goodW c (ws i) (rs i)) (cs : CS 1 h' s') (ms : MS N false h' s') (F : fr S_all h h') (z : same112 h h') : InvX h' := by
  refine ⟨c, f, n, ws, rs, cu, mu, rel, ?_, Rest_T (fun _ q => q) F z hrest hN hcN gs.2 cs.2 ms.2.1⟩
  rw [cs.1]
  have e : (s'.1.1 0, s'.1.2.2.1) = c := Prod.ext (gs.1.1.2.trans hcN.symm) (sm.1.trans cy)
  have := ms.1.1
  rw [e] at this
  exact this
theorem MS_112 {n : Nat} {th : Bool} {h h' : gk_H} {s : gS} (f : fr (fun k => k = 112 ∨ k = 114) h h') (e : ∀ i, ¬ i = 0 → ¬ i = 3 → h'.1 112 i = h.1 112 i) (m : MS n th h s) : MS n th h' s := ⟨MWr_fr f (by omega) (by omega) m.1, MTl_eq (fun k h1 h2 => (f k (by omega)).2.1) (e _ (by decide) (by decide)) (e _ (by decide) (by decide)) (e _ (by decide) (by decide)) m.2.1, by rw [e 5 (by decide) (by decide), e 6 (by decide) (by decide)]; exact m.2.2⟩
/-- what stands at the start, on both sides -/
theorem Inv_st {h : gk_H} (I : InvX h) : ∃ c N f n ws rs T, RestX c h ∧ N ≤ 10 ∧ c.1 = nI N ∧ (wv h 1).2.2.1 = c.2 ∧ gd N (wv h 1, T) ∧ cU h f n ws ∧ mU h n rs ∧ (∀ i, i < n → wRel goodW c (ws i) (rs i)) ∧ wRel goodW c (wv h 1) (rv h 113 0) ∧ CS 1 h (wv h 1, T) ∧ MS N false h (wv h 1, T) := by
  obtain ⟨c, f, n, ws, rs, hc, hm, hr, hw, hrest⟩ := I
  obtain ⟨N, T, ⟨l1, l2, l3⟩, l4, l5, l6, l7⟩ := hrest.1
  have e1 : (wv h 1).1 0 = c.1 := hw.1.1
  have e2 : (wv h 1).2.2.1 = c.2 := hw.1.2
  refine ⟨c, N, f, n, ws, rs, T, hrest, l1, l2, e2, ⟨GW_of l1 (e1.trans l2) hw.2.1, l5⟩, hc, hm, hr, hw, ⟨rfl, l6⟩, ⟨⟨?_, fun p hp => ?_⟩, l7, hrest.2.2.2.1, l3⟩⟩
  · show wRel goodW ((wv h 1).1 0, (wv h 1).2.2.1) (wv h 1) (rv h 113 0)
    rw [e1, e2]; exact hw
  · show h.2.1 116 p = (wv h 1).2.2.1 p
    rw [e2]; exact l4 p hp
theorem lc_act {E : gk_E} {d : Nat} (a0 a1 a2 : Int32) : lc_ok E (d + 9) InvX jdp_act jmo_act [.int a0, .int a1, .int a2] := by
  intro h hI
  have hI0 := hI
  obtain ⟨c, N, f, n, ws, rs, T, hrest, hN, hcN, cy, g, hc, hm, hr, hw, cs, ms⟩ := Inv_st hI
  refine ⟨fun r h1 => (r = 0 ∧ fr S_teA h h1 ∧ ∀ a p c, isD N a0 a1 a2 a p c → canB (wv h 1, T) a p c = false) ∨ (r = 1 ∧ ∃ a p c', isD N a0 a1 a2 a p c' ∧ canB (wv h 1, T) a p c' = true ∧ ∃ f', cU h1 f' (kpN n) (kpS n ws (wv h 1)) ∧ CS 1 h1 (doP false a p c' (wv h 1, T)) ∧ fr (fun k => S_ring k ∨ SK1 k) h h1), fun K1 hK => ?_, fun r h1 hM K2 hK => ?_⟩
  · refine gk_ci_mk (x_dp_act (s_ke_canDo_79 (d := d + 3) cs g (fun no => ?_) (fun a p c' id h' f1 => ?_)))
    · exact zT rfl ⟨Or.inl rfl, hK _ _ (Or.inl ⟨rfl, fr_rf, fun a p c id => absurd ⟨a, p, c, id⟩ no⟩)⟩
    · refine bsel2 (fun b => ⟨Or.inl rfl, hK _ _ (Or.inl ⟨rfl, f1, fun a'' p'' c'' id' => (isD_u hN id id').trans b⟩)⟩) (fun b => ?_)
      have u1 : cU h' f n ws := cU_fr (S := S_teA) (fun k hk q => by unfold S_ring at hk; unfold S_teA at q; omega) f1 hc
      have w1 : wv h' 1 = wv h 1 := wv_fr f1 (fun i hi q => by unfold S_teA at q; omega)
      refine S_keep (d := d + 5) u1 fun f2 h2 u2 g2 => ?_
      rw [w1] at u2
      have c1 : CS 1 h' (wv h 1, T) := CS_fr f1 (fun k h1 h2 q => by unfold S_teA at q; omega) (fun i hi q => by unfold S_teA at q; omega) cs
      have c2 : CS 1 h2 (wv h 1, T) := CS_fr g2 (fun k h1 h2 q => by unfold S_ring at q; omega) (fun i hi q => by unfold S_ring at q; omega) c1
      refine s_ke_carryOut_79 (d := d + 3) id c2 g fun h3 c3 f3 => ⟨Or.inr rfl, hK _ _ (Or.inr ⟨rfl, a, p, c', id, b, f2, cU_fr (S := SK1) (fun k hk q => by unfold S_ring at hk; unfold SK1 at q; omega) f3 u2, c3, ?_⟩)⟩
      exact fr_tr (fr_mo f1 (fun k q => Or.inr (by unfold S_teA at q; unfold SK1; omega))) (fr_tr (fr_mo g2 (fun k q => Or.inl q)) (fr_mo f3 (fun k q => Or.inr q)))
  · rcases hM with ⟨er, f1, no⟩ | ⟨er, a, p, c', id, b, f', u1, c1, f1⟩
    · rw [er] at hK
      have q1 : Qs h h1 := Qs_te f1
      have q2 : Qs h (gk_hf h1 112 0 0) := Qs_tr q1 Qs_t
      have m1 : MS N false (gk_hf h1 112 0 0) (wv h 1, T) := MS_112 (fr_hf (by omega)) (fun i i0 _ => by rw [hf_f, if_neg (fun q => i0 q.2)]) (MS_fr f1 (fun k h1 h2 q => by unfold S_teA at q; omega) ms)
      refine gk_ci_mk (x_mo_act (s_mo_isTold hN m1.2.2.2 (fun _ => yT rfl ⟨Or.inl rfl, hK _ (Inv_Qs q2 hI0)⟩) (fun a p c' id => yF (by decide) (s_mo_canAct (d := d + 1) id m1 g fun h2 f2 => ?_))))
      rw [no a p c' id]
      exact zT rfl ⟨Or.inl rfl, hK _ (Inv_Qs (Qs_tr q2 (Qs_as f2)) hI0)⟩
    · rw [er] at hK
      have m1 : MS N false (gk_hf h1 112 0 0) (wv h 1, T) := MS_112 (fr_hf (by omega)) (fun i i0 _ => by rw [hf_f, if_neg (fun q => i0 q.2)]) (MS_fr f1 (fun k h1 h2 q => by unfold S_ring SK1 at q; omega) ms)
      refine gk_ci_mk (x_mo_act (s_mo_isTold hN m1.2.2.2 (fun no => absurd ⟨a, p, c', id⟩ no) (fun a'' p'' c'' id' => yF (by decide) (s_mo_canAct (d := d + 1) id m1 g fun h2 f2 => ?_))))
      rw [b]
      have m2 : MS N false h2 (wv h 1, T) := MS_fr f2 (fun k h1 h2 q => by unfold S_as at q; omega) m1
      have G : fr (fun k => k = 112 ∨ S_as k) h1 h2 := fr_tr (fr_hf (Or.inl rfl)) (fr_mo f2 (fun k q => Or.inr q))
      have F2 : fr (fun k => S_ring k ∨ SK1 k ∨ k = 112 ∨ S_as k) h h2 := fr_tr (fr_mo f1 (fun k q => by rcases q with q | q; exact Or.inl q; exact Or.inr (Or.inl q))) (fr_mo G (fun k q => Or.inr (Or.inr q)))
      have e2 : ∀ i, ¬ i = 0 → h2.1 112 i = h.1 112 i := fun i i0 => by
        rw [(f2 112 (by unfold S_as; omega)).1, hf_f, if_neg (fun q => i0 q.2), (f1 112 (by unfold S_ring SK1; omega)).1]
      have mu2 : mU h2 n rs := mU_of (e2 3 (by decide)) (F2 114 (by unfold S_ring SK1 S_as; omega)).2.1 hm
      have r2 : rv h2 113 0 = rv h 113 0 := rv_eq fun j _ => by rw [(F2 113 (by unfold S_ring SK1 S_as; omega)).2.1]
      refine zF (by decide) (M_keep (d := d + 7) mu2 fun h3 mu3 e3 f3 => ?_)
      rw [r2] at mu3
      have m3 : MS N false h3 (wv h 1, T) := MS_112 (fr_mo f3 (fun k q => q)) (fun i _ i3 => e3 i i3) m2
      refine s_mo_acts (d := d) id m3 g fun h4 m4 f4 => ⟨Or.inr rfl, hK _ ?_⟩
      have G4 : fr (fun k => k = 112 ∨ k = 114 ∨ SM k) h1 h4 := fr_tr (fr_mo G (fun k q => by unfold S_as at q; unfold SM; omega)) (fr_tr (fr_mo f3 (fun k q => by unfold S_mkeep at q; omega)) (fr_mo f4 (fun k q => Or.inr (Or.inr q))))
      have gD := gd_do (th := false) g id.2.2.2
      refine Inv_of hrest hN hcN cy gD.2 gD.1 (cU_fr (fun k hk q => by unfold S_ring at hk; unfold SM at q; omega) G4 u1) ⟨mu3.1, by rw [(f4 112 (by unfold SM; omega)).1]; exact mu3.2.1, fun i hi => ?_⟩ (kp_rel hr hw) (CS_fr G4 (fun k h1 h2 q => by unfold SM at q; omega) (fun i hi q => by unfold SM at q; omega) c1) m4 ?_ (same112_of fun i i0 i3 => ?_)
      · rw [← mu3.2.2 i hi]
        exact rv_eq fun j _ => by rw [(f4 114 (by unfold SM; omega)).2.1]
      · exact fr_tr (fr_mo f1 (fun k q => by unfold S_ring SK1 at q; unfold S_all free; omega)) (fr_mo G4 (fun k q => by unfold SM at q; unfold S_all free; omega))
      · rw [(f4 112 (by unfold SM; omega)).1, e3 i i3, e2 i i0]
