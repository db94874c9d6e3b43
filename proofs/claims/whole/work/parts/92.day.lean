/-! a day, the class -/
def rimG (g : Int64) : Int64 := g &&& (gSh g ^^^ (-1 : Int64))
theorem rim_bit {g : Int64} {c : Nat} (hc : c < 64) : nb_bitL (rimG g) c = (nb_bitL g c && !decide (wet (nb_bitL g) c = 0)) := by
  unfold rimG
  rw [bL_and, bL_not, decide_eq_true hc, Bool.true_and, bL_sh hc]
  unfold wet
  generalize (decide (8 ≤ c) && nb_bitL g (c - 8)) = b2
  generalize (decide (c % 8 ≠ 7) && nb_bitL g (c + 1)) = b3
  generalize (decide (c % 8 ≠ 0) && nb_bitL g (c - 1)) = b4
  generalize nb_bitL g (c + 8) = b1
  generalize nb_bitL g c = b0
  cases b0 <;> cases b1 <;> cases b2 <;> cases b3 <;> cases b4 <;> rfl
theorem wet_4 {f : Nat → Bool} {c : Nat} : wet f c ≤ 4 := by
  unfold wet
  have a1 := Bool.toNat_le (!f (c + 8))
  have a2 := Bool.toNat_le (!(decide (8 ≤ c) && f (c - 8)))
  have a3 := Bool.toNat_le (!(decide (c % 8 ≠ 7) && f (c + 1)))
  have a4 := Bool.toNat_le (!(decide (c % 8 ≠ 0) && f (c - 1)))
  omega
theorem wF_2 {w : gk_WV} {i : Nat} {x y : Int32} : wF (wF w i x) i y = wF w i y := by
  refine Prod.ext (funext fun s => ?_) rfl
  show (if s = i then y else if s = i then x else w.1 s) = if s = i then y else w.1 s
  by_cases q : s = i
  · rw [if_pos q, if_pos q]
  · rw [if_neg q, if_neg q, if_neg q]
theorem wF_id {w : gk_WV} {i : Nat} : wF w i (w.1 i) = w := by
  refine Prod.ext (funext fun s => ?_) rfl
  show (if s = i then w.1 i else w.1 s) = w.1 s
  by_cases q : s = i
  · rw [if_pos q, q]
  · rw [if_neg q]
theorem wD_id {w : gk_WV} {p : Nat} : wD w p (w.2.1 p) = w := by
  refine Prod.ext rfl (Prod.ext (funext fun s => ?_) rfl)
  show (if s = p then w.2.1 p else w.2.1 s) = w.2.1 s
  by_cases q : s = p
  · rw [if_pos q, q]
  · rw [if_neg q]
theorem and_n0 (x : Int64) : x &&& ((0 : Int64) ^^^ (-1 : Int64)) = x := bL_ext fun c hc => by rw [bL_and, bL_not, bL_0, decide_eq_true hc]; simp
theorem ones_0 : nb_onesL 0 = 0 := by decide +kernel
theorem crL_0 {th : Bool} {s : gS} {p : Nat} (z : ∀ c, c < 64 → ¬ (nb_bitL (s.1.2.1 p) c = true ∧ wet (nb_bitL (s.1.2.1 p)) c ≠ 0)) : ∀ c, c ≤ 64 → crL th s p c = (s.1.1 6, 0) := by
  intro c
  induction c with
  | zero => intro _; rfl
  | succ c ih => intro hc; rw [crL, if_neg (z c (by omega)), ih (by omega)]
theorem crP_0 {th : Bool} {s : gS} {p : Nat} (z : ∀ c, c < 64 → ¬ (nb_bitL (s.1.2.1 p) c = true ∧ wet (nb_bitL (s.1.2.1 p)) c ≠ 0)) : crN th s p = 0 ∧ crP th p s = s := by
  have e := crL_0 (th := th) z 64 (Nat.le_refl _)
  have e1 : crN th s p = 0 := by unfold crN; rw [e]; exact ones_0
  refine ⟨e1, ?_⟩
  unfold crP
  rw [if_pos e1]
  unfold crW
  rw [e]
  show (wF (wD s.1 p (s.1.2.1 p &&& ((0 : Int64) ^^^ (-1 : Int64)))) 6 (s.1.1 6), s.2) = s
  rw [and_n0, wD_id, wF_id]
theorem isD_u {n : Nat} {s : gS} {w0 w1 w2 : Int32} {a p c a' p' c' : Nat} (hn : n ≤ 10) (i : isD n w0 w1 w2 a p c) (i' : isD n w0 w1 w2 a' p' c') : canB s a' p' c' = canB s a p c := by
  obtain ⟨i1, i2, i3, o1, o2, o3, o4, o5, o6, o7⟩ := i
  obtain ⟨j1, j2, j3, q1, q2, q3, q4, q5, q6, q7⟩ := i'
  have ea : a' = a := (nI_eq (by omega) (by omega)).mp (j1.symm.trans i1)
  have ep : p' = p := (nI_eq (by omega) (by omega)).mp (j2.symm.trans i2)
  rw [ea, ep]
  unfold canB
  by_cases z : a = 5
  · have : c' = c := (nI_eq (by omega) (by omega)).mp ((j3 (by omega)).symm.trans (i3 (by omega)))
    rw [this]
  · rw [if_neg z, if_neg z]
theorem s_ke_isHit_79 {E : gk_E} {d : Nat} {h : gk_H} {K : Int32 → gk_H → Prop} {w : gk_WV} {T : gT} {x o : Int32} (cs : CS 1 h (wF w 6 x, T)) (k : ∀ h', CS 1 h' (wF w 6 (hitP false o x).2, T) → fr (fun k => k = 1) h h' → K (nb_b (hitP false o x).1) h') : gk_ci E (d + 2) jke_isHit [.ref 79, .int o] h K := by
  refine gk_ci_mk (x_ke_isHit_79 ⟨fun q => ⟨Or.inl rfl, ?_⟩, fun q => ?_⟩)
  · have e : hitP false o x = (false, x) := by unfold hitP; rw [if_neg (by decide), if_pos q]
    rw [e] at k; exact k h cs fr_rf
  · have e : hitP false o x = (decide (drN (nx x) < o), nx x) := by unfold hitP; rw [if_neg (by decide), if_neg q]
    rw [e] at k
    have e6 : h.1 1 6 = x := wv_f cs.1 (by decide)
    have e6' : (gk_hf h 1 6 (1664525 * x + 1013904223)).1 1 6 = nx x := by rw [hf_f, if_pos ⟨rfl, rfl⟩]; rfl
    have kk := k (gk_hf h 1 6 (1664525 * x + 1013904223)) ⟨by rw [wv_F (by decide) cs.1]; exact wF_2, CT_fr (S := fun k => k = 1) (fr_hf rfl) (fun k h1 h2 q => by omega) cs.2⟩ (fr_hf rfl)
    refine gk_ci_mk (x_wo_drawOfThousand ⟨by decide, ?_⟩)
    rw [e6, e6']
    refine ⟨fun z => ⟨Or.inl rfl, ?_⟩, fun z => ⟨Or.inr rfl, ?_⟩⟩
    · have : decide (drN (nx x) < o) = false := decide_eq_false (Int32.not_lt.mpr z)
      rw [this] at kk; exact kk
    · have : decide (drN (nx x) < o) = true := decide_eq_true (Int32.not_le.mp z)
      rw [this] at kk; exact kk
theorem s_ke_isHit_87 {E : gk_E} {d : Nat} {h : gk_H} {K : Int32 → gk_H → Prop} {w : gk_WV} {T : gT} {x o : Int32} (cs : CS 81 h (wF w 6 x, T)) (k : ∀ h', CS 81 h' (wF w 6 (hitP true o x).2, T) → fr (fun k => k = 81) h h' → K (nb_b (hitP true o x).1) h') : gk_ci E (d + 2) jke_isHit [.ref 87, .int o] h K := by
  have e : hitP true o x = (!decide (o < 500), x) := by unfold hitP; rw [if_pos rfl]
  rw [e] at k
  refine gk_ci_mk (x_ke_isHit_87 ⟨fun q => ⟨Or.inl rfl, ?_⟩, fun q => ⟨Or.inr rfl, ?_⟩⟩)
  · have := k h cs fr_rf
    rw [decide_eq_true q] at this; exact this
  · have := k h cs fr_rf
    rw [decide_eq_false q] at this; exact this
section D1
variable {E : gk_E} {d : Nat} {h : gk_H} {s : gS} {n : Nat}
theorem s_wo_isShown_1 {K : Int32 → gk_H → Prop} {p : Nat} {w : gk_WV} (hp : p < 10) (e : wv h 1 = w) (hk : K (nb_b (shB w p)) h) : gk_ci E (d + 2) jwo_isShown [.ref 1, .int (nI p)] h K := by
  have eh : h.2.1 4 p = w.2.2.2.1 p := wv_h (a := 1) e hp
  refine gk_ci_mk (x_wo_isShown_1 (s_wo_isOwned_1 (by omega) ?_))
  rw [wv_f e (s := 1) (by decide), nI_clamp (by omega), eh]
  unfold shB at hk
  refine bsel (fun b => ⟨Or.inl rfl, ?_⟩) (fun b => ⟨vp_in_nI (by omega) (by decide), fun q => ⟨Or.inl rfl, ?_⟩, fun q => ⟨Or.inr rfl, ?_⟩⟩)
  · rw [b] at hk; exact hk
  · rw [b, decide_eq_true q] at hk; exact hk
  · rw [b, decide_eq_false q] at hk; exact hk
theorem s_ke_keepDiary_79 {K : gk_H → Prop} (cs : CS 1 h s) (g : gd n s) (k : ∀ h', CS 1 h' (diaP false s s.2.1.2.1) → fr SK1 h h' → K h') : gk_cv E (d + 6) jke_keepDiary [.ref 79] h K := by
  have hn := g.1.1.1
  have h16 : s.2.1.2.1 ≤ 16 := g.2.1.2.1
  refine gk_cv_mk (x_ke_keepDiary_79 (fe ?_))
  refine lp_up (N := s.2.1.2.1) (fun i (u : gk_H) => g_ke_keepDiary_79_2 E (d + 5) (gk_qv K) (nI i) u) (fun i u => CS 1 u (diaP false s i) ∧ fr SK1 h u) ?_ ?_ 0 h (Nat.zero_le _) ⟨cs, fr_rf⟩
  · rintro i u hi ⟨cu, fu⟩ ih
    obtain ⟨gi, si⟩ := gd_dia (th := false) g i (by omega)
    have ec : u.2.1 15 2 = nI s.2.1.2.1 := by have := cu.2.1.2.1; rw [si.2.1] at this; exact this
    have ed : ∀ j, j < 4 * s.2.1.2.1 → u.2.1 17 j = (diaP false s i).2.2.2.1 j := by have := cu.2.2.2.1; rw [si.2.1] at this; exact this
    refine x_ke_keepDiary_79_2 (s_tx_count_7 (k := 2) (by decide) (by decide) (pk_le s.2.1.2.1 i (fun q => by omega) (fun _ => ?_) (hx := ec)))
    rw [show nI i * (4 : Int32) = nI (4 * i) by rw [Nat.mul_comm]; exact nI_mulN i 4]
    refine fe ?_
    rw [show nI (4 * i) + (1 : Int32) = nI (4 * i + 1) from nI_add _ 1, show nI (4 * i) + (2 : Int32) = nI (4 * i + 2) from nI_add _ 2, show nI (4 * i) + (3 : Int32) = nI (4 * i + 3) from nI_add _ 3, nI_clamp (n := 4 * i) (by omega), nI_clamp (n := 4 * i + 1) (by omega), nI_clamp (n := 4 * i + 2) (by omega), nI_clamp (n := 4 * i + 3) (by omega), ed _ (by omega), ed _ (by omega), ed _ (by omega), ed _ (by omega), wv_f cu.1 (s := 5) (by decide), nI_1]
    refine ⟨vp_in_nI (by omega) (by decide), fe ⟨vp_in_nI (by omega) (by decide), fe ⟨vp_in_nI (by omega) (by decide), fe ⟨vp_in_nI (by omega) (by decide), ?_⟩⟩⟩⟩
    have id := dOk_isD (gi.2.2.2.1 i (by rw [si.2.1]; exact hi))
    refine ⟨fun q => fe (ih u ⟨?_, fu⟩), fun q => s_ke_canDo_79 cu gi (fun z => absurd ⟨_, _, _, id⟩ z) (fun a' p' c' i' u1 f1 => ?_)⟩
    · have : diaP false s (i + 1) = diaP false s i := by rw [diaP]; unfold entP; rw [if_neg (fun y => q y.1)]
      rw [this]; exact cu
    · rw [isD_u hn id i']
      have c1 : CS 1 u1 (diaP false s i) := CS_fr f1 (fun k h1 h2 q => by unfold S_teA at q; omega) (fun i hi q => by unfold S_teA at q; omega) cu
      have f2 : fr SK1 h u1 := fr_tr fu (fr_mo f1 (fun k q => by unfold S_teA at q; unfold SK1; omega))
      refine bsel (fun y => fe (ih u1 ⟨?_, f2⟩)) (fun y => s_ke_carryOut_79 id c1 gi (fun u2 c2 f3 => fe (ih u2 ⟨?_, fr_tr f2 f3⟩)))
      · have : diaP false s (i + 1) = diaP false s i := by rw [diaP]; unfold entP; rw [if_neg (fun z => by rw [y] at z; exact absurd z.2 (by decide))]
        rw [this]; exact c1
      · have : diaP false s (i + 1) = doP false ((diaP false s i).2.2.2.1 (4 * i + 1)).toNatClampNeg ((diaP false s i).2.2.2.1 (4 * i + 2)).toNatClampNeg ((diaP false s i).2.2.2.1 (4 * i + 3)).toNatClampNeg (diaP false s i) := by rw [diaP]; unfold entP; rw [if_pos ⟨q, y⟩]
        rw [this]; exact c2
  · rintro u ⟨cu, fu⟩
    obtain ⟨gi, si⟩ := gd_dia (th := false) g _ (Nat.le_refl _)
    have ec : u.2.1 15 2 = nI s.2.1.2.1 := by have := cu.2.1.2.1; rw [si.2.1] at this; exact this
    exact x_ke_keepDiary_79_2 (s_tx_count_7 (k := 2) (by decide) (by decide) (pk_le s.2.1.2.1 s.2.1.2.1 (fun _ => k u cu fu) (fun q => by omega) (hx := ec)))
theorem s_ke_creepIn_79 {K : Int32 → gk_H → Prop} {p : Nat} (hp : p < n) (cs : CS 1 h s) (g : gd n s) (k : ∀ h', CS 1 h' (crP false p s) → fr SK1 h h' → K (nI (crN false s p)) h') : gk_ci E (d + 6) jke_creepIn [.ref 79, .int (nI p)] h K := by
  have hn := g.1.1.1
  have wr := GW_wr g.1
  have ed : h.2.2 2 p = s.1.2.1 p := wv_d (a := 1) cs.1 (by omega)
  have vp : vp_in (nI p) 10 := vp_in_nI (by omega) (by decide)
  refine gk_ci_mk (x_ke_creepIn_79 ⟨vp, ?_⟩)
  rw [nI_clamp (by omega), ed]
  refine fe (s_gr_shrunk (n := 1) (by decide) (fe ?_))
  have er : s.1.2.1 p &&& (gShN (s.1.2.1 p) 1 ^^^ (-1 : Int64)) = rimG (s.1.2.1 p) := rfl
  rw [er, nb_cmp0]
  refine ⟨fun q => fe ?_, fun q => ?_⟩
  · refine lp_up (N := 5) (fun j (u : gk_H) => g_ke_creepIn_79_35 E (d + 5) (gk_qi K) (nI p) (s.1.2.1 p) (rimG (s.1.2.1 p)) (nI j) u) (fun j u => 1 ≤ j ∧ CS 1 u s ∧ fr SK1 h u ∧ ∀ t, 1 ≤ t → t < j → u.2.1 80 t = cre s.1 s.2 p (nI t)) ?_ ?_ 1 h (by decide) ⟨Nat.le_refl _, cs, fr_rf, fun t h1 h2 => by omega⟩
    · rintro j u hj ⟨j1, cu, fu, hu⟩ ih
      refine x_ke_creepIn_79_35 (pk_lt 4 j (fun q => by omega) (fun _ => (s_te_tell_1 (by omega) cu.1 (GW_to g.1) cu.2 g.2).2.2 (nI j) _ fun u' f => ⟨vp_in_nI (by omega) (by decide), fe (fe ?_)⟩))
      rw [nI_1, nI_clamp (by omega)]
      have F : fr (fun k => S_teA k ∨ k = 80) u (gk_ha u' 80 j (cre s.1 s.2 p (nI j))) := fr_tr (fr_mo f (fun k q => Or.inl q)) (fr_ha (Or.inr rfl))
      refine ih _ ⟨by omega, CS_fr F (fun k h1 h2 q => by unfold S_teA at q; omega) (fun i hi q => by unfold S_teA at q; omega) cu, fr_tr fu (fr_mo F (fun k q => by unfold S_teA at q; unfold SK1; omega)), fun t h1 h2 => ?_⟩
      rw [ha_a]
      by_cases z : t = j
      · rw [if_pos ⟨rfl, z⟩, z]; rfl
      · rw [if_neg (fun y => z y.2), (f 80 (by unfold S_teA; omega)).2.1]
        exact hu t h1 (by omega)
    · rintro u ⟨j1, cu, fu, hu⟩
      refine x_ke_creepIn_79_35 (pk_lt 4 5 (fun _ => fe (fe ?_)) (fun q => by omega))
      refine lp_up (N := 64) (fun c (σ : Int64 × gk_H) => g_ke_creepIn_79_74 E (d + 5) (gk_qi K) (nI p) (s.1.2.1 p) (rimG (s.1.2.1 p)) σ.1 (nI c) σ.2) (fun c σ => σ.1 = (crL false s p c).2 ∧ CS 1 σ.2 (wF s.1 6 (crL false s p c).1, s.2) ∧ fr SK1 h σ.2 ∧ ∀ t, 1 ≤ t → t < 5 → σ.2.2.1 80 t = cre s.1 s.2 p (nI t)) ?_ ?_ 0 (0, u) (by decide) ⟨rfl, ?_, fu, hu⟩
      · rintro c ⟨g0, u⟩ hc ⟨e1, e2, e3, e4⟩ ih
        refine x_ke_creepIn_79_74 (pk_le 64 c (fun q => by omega) (fun _ => s_gr_isDry hc ?_))
        rw [rim_bit hc, nI_1]
        refine bsel (fun b => fe (ih (g0, u) ?_)) (fun b => s_gr_wetBeside hc ⟨vp_in_nI (by have := wet_4 (f := nb_bitL (s.1.2.1 p)) (c := c); omega) (by decide), ?_⟩)
        · have ec : crL false s p (c + 1) = crL false s p c := by
            rw [crL, if_neg]
            rintro ⟨z1, z2⟩
            rw [z1, decide_eq_false z2] at b
            exact absurd b (by decide)
          rw [ec]; exact ⟨e1, e2, e3, e4⟩
        · have hb : nb_bitL (s.1.2.1 p) c = true ∧ wet (nb_bitL (s.1.2.1 p)) c ≠ 0 := by
            rw [Bool.and_eq_true] at b
            refine ⟨b.1, fun z => ?_⟩
            rw [decide_eq_true z] at b
            exact absurd b.2 (by decide)
          have ec := crL.eq_2 false s p c
          rw [if_pos hb] at ec
          have w4 := wet_4 (f := nb_bitL (s.1.2.1 p)) (c := c)
          have w1 := hb.2
          rw [nI_clamp (by omega)]
          have e5 : u.2.1 80 (wet (nb_bitL (s.1.2.1 p)) c) = cre s.1 s.2 p (nI (wet (nb_bitL (s.1.2.1 p)) c)) := e4 _ (by omega) (by omega)
          rw [e5]
          refine s_ke_isHit_79 e2 fun u' c' f' => bsel (fun y => fe (ih (g0, u') ?_)) (fun y => fe (fe (ih (g0 ||| ((1 : Int64) <<< ((nI c).toInt64 &&& 63)), u') ?_)))
          · rw [ec, if_neg (by rw [y]; decide)]
            exact ⟨e1, c', fr_tr e3 (fr_mo f' (fun k q => by unfold SK1; omega)), fun t h1 h2 => by show u'.2.1 80 t = _; rw [(f' 80 (by omega)).2.1]; exact e4 t h1 h2⟩
          · rw [ec, if_pos y]
            exact ⟨by rw [← e1], c', fr_tr e3 (fr_mo f' (fun k q => by unfold SK1; omega)), fun t h1 h2 => by show u'.2.1 80 t = _; rw [(f' 80 (by omega)).2.1]; exact e4 t h1 h2⟩
      · rintro ⟨g0, u⟩ ⟨e1, e2, e3, e4⟩
        have e1 : g0 = (crL false s p 64).2 := e1
        refine x_ke_creepIn_79_74 (pk_le 64 64 (fun _ => ⟨vp, ?_⟩) (fun q => by omega))
        rw [nI_clamp (by omega), e1]
        refine fe (s_jl_bitCount (fe ?_))
        have F : fr (fun k => 1 ≤ k ∧ k ≤ 6) u (gk_hl u 2 p (s.1.2.1 p &&& ((crL false s p 64).2 ^^^ (-1 : Int64)))) := fr_hl (by omega)
        have cw : CS 1 (gk_hl u 2 p (s.1.2.1 p &&& ((crL false s p 64).2 ^^^ (-1 : Int64)))) (crW false s p, s.2) := ⟨wv_D (a := 1) (by omega) e2.1, CT_fr F (fun k h1 h2 q => by omega) e2.2⟩
        have F2 : fr SK1 h (gk_hl u 2 p (s.1.2.1 p &&& ((crL false s p 64).2 ^^^ (-1 : Int64)))) := fr_tr e3 (fr_mo F (fun k q => by unfold SK1; omega))
        have o64 : nb_onesL (crL false s p 64).2 ≤ 64 := nb_cnt_le _ _
        refine pk_le (nb_onesL (crL false s p 64).2) 0 (fun q => k _ ?_ F2) (fun q => s_ke_note_79 (s := (crW false s p, s.2)) cw wr fun h' c' f' => k h' ?_ (fr_tr F2 f'))
        · unfold crP; rw [if_pos (show crN false s p = 0 by unfold crN; omega)]; exact cw
        · unfold crP; rw [if_neg (show ¬ crN false s p = 0 by unfold crN; omega)]; exact c'
      · show CS 1 u (wF s.1 6 (s.1.1 6), s.2)
        rw [wF_id]; exact cu
  · have z : ∀ c, c < 64 → ¬ (nb_bitL (s.1.2.1 p) c = true ∧ wet (nb_bitL (s.1.2.1 p)) c ≠ 0) := fun c hc y => by
      have := rim_bit (g := s.1.2.1 p) hc
      rw [q, bL_0, y.1, decide_eq_false y.2] at this
      cases this
    obtain ⟨z1, z2⟩ := crP_0 (th := false) z
    have := k h (by rw [z2]; exact cs) fr_rf
    rw [z1] at this
    exact this
theorem s_ke_receive_79 {K : gk_H → Prop} {p : Nat} (hp : p < 10) (cs : CS 1 h s) (g : gd n s) (k : ∀ h', CS 1 h' (rcP false p s) → fr SK1 h h' → K h') : gk_cv E (d + 5) jke_receive [.ref 79, .int (nI p)] h K := by
  have wr := GW_wr g.1
  refine gk_cv_mk (x_ke_receive_79 ((s_te_tell_1 hp cs.1 (GW_to g.1) cs.2 g.2).2.1 _ fun h1 f1 => fe ?_))
  have c1 : CS 1 h1 s := CS_fr f1 (fun k h1 h2 q => by unfold S_teA at q; omega) (fun i hi q => by unfold S_teA at q; omega) cs
  rw [wv_f c1.1 (s := 4) (by decide)]
  refine s_wo_earn_1 (wv_F (by decide) c1.1) fun h2 w2 f2 => ?_
  have F : fr (fun k => k = 1) h1 h2 := fr_tr (fr_hf rfl) f2
  have c2 : CS 1 h2 (rcW s p, s.2) := ⟨w2, CT_fr F (fun k h1 h2 q => by omega) c1.2⟩
  have F2 : fr SK1 h h2 := fr_tr (fr_mo f1 (fun k q => by unfold S_teA at q; unfold SK1; omega)) (fr_mo F (fun k q => by unfold SK1; omega))
  refine ⟨fun q => k h2 ?_ F2, fun q => s_ke_note_79 (s := (rcW s p, s.2)) c2 wr fun h' c' f' => k h' ?_ (fr_tr F2 f')⟩
  · unfold rcP; rw [if_pos (show com s.1 s.2 p ≤ 0 from q)]; exact c2
  · unfold rcP; rw [if_neg (show ¬ com s.1 s.2 p ≤ 0 from q)]; exact c'
theorem s_ke_passDay_79 {K : Int32 → gk_H → Prop} (cs : CS 1 h s) (g : gd n s) (k : ∀ h', CS 1 h' (dayS false n s) → fr SK1 h h' → K (dayC false n s).1 h') : gk_ci E (d + 7) jke_passDay [.ref 79] h K := by
  have hn := g.1.1.1
  obtain ⟨g1, s1⟩ := gd_dia (th := false) g _ (Nat.le_refl _)
  have g2 : gd n (dayC false n s).2 := (gd_crA (th := false) g1 n (Nat.le_refl _)).1
  refine gk_ci_mk (x_ke_passDay_79 (s_ke_keepDiary_79 cs g fun h1 c1 f1 => fe (fe ?_)))
  refine lp_up (N := n) (fun p (u : gk_H) => g_ke_passDay_79_8 E (d + 6) (gk_qi K) (crA false (diaP false s s.2.1.2.1) p).1 (nI p) u) (fun p u => CS 1 u (crA false (diaP false s s.2.1.2.1) p).2 ∧ fr SK1 h u) ?_ ?_ 0 h1 (Nat.zero_le _) ⟨c1, f1⟩
  · rintro p u hp ⟨cu, fu⟩ ih
    have gp := (gd_crA (th := false) g1 p (by omega)).1
    refine x_ke_passDay_79_8 (pk_le n p (fun q => by omega) (fun _ => s_wo_isShown_1 (by omega) cu.1 ?_) (hx := (wv_f cu.1 (by decide)).trans gp.1.1.2))
    rw [nI_1]
    have ec := crA.eq_2 false (diaP false s s.2.1.2.1) p
    refine bsel (fun b => fe ?_) (fun b => s_ke_creepIn_79 hp cu gp fun u' c' f' => fe (fe ?_))
    · rw [if_neg (by rw [b]; decide)] at ec
      have := ih u ⟨by rw [ec]; exact cu, fu⟩
      rw [ec] at this; exact this
    · rw [if_pos b] at ec
      have := ih u' ⟨by rw [ec]; exact c', fr_tr fu f'⟩
      rw [ec] at this; exact this
  · rintro u ⟨cu, fu⟩
    refine x_ke_passDay_79_8 (pk_le n n (fun _ => fe ?_) (fun q => by omega) (hx := (wv_f cu.1 (by decide)).trans g2.1.1.2))
    refine lp_up (N := n) (fun p (u : gk_H) => g_ke_passDay_79_46 E (d + 6) (gk_qi K) (dayC false n s).1 (nI p) u) (fun p u => CS 1 u (rcA false (dayC false n s).2 p) ∧ fr SK1 h u) ?_ ?_ 0 u (Nat.zero_le _) ⟨cu, fu⟩
    · rintro p u hp ⟨cu, fu⟩ ih
      have gp := (gd_rcA (th := false) g2 p).1
      refine x_ke_passDay_79_46 (pk_le n p (fun q => by omega) (fun _ => s_wo_isShown_1 (by omega) cu.1 ?_) (hx := (wv_f cu.1 (by decide)).trans gp.1.1.2))
      rw [nI_1]
      have ec := rcA.eq_2 false (dayC false n s).2 p
      refine bsel (fun b => fe ?_) (fun b => s_ke_receive_79 (by omega) cu gp fun u' c' f' => fe ?_)
      · rw [if_neg (by rw [b]; decide)] at ec
        exact ih u ⟨by rw [ec]; exact cu, fu⟩
      · rw [if_pos b] at ec
        exact ih u' ⟨by rw [ec]; exact c', fr_tr fu f'⟩
    · rintro u ⟨cu, fu⟩
      have gp := (gd_rcA (th := false) g2 n).1
      refine x_ke_passDay_79_46 (pk_le n n (fun _ => ?_) (fun q => by omega) (hx := (wv_f cu.1 (by decide)).trans gp.1.1.2))
      rw [wv_f cu.1 (s := 5) (by decide)]
      have F : fr (fun k => k = 1) u (gk_hf u 1 5 ((rcA false (dayC false n s).2 n).1.1 5 + 1)) := fr_hf rfl
      exact k _ ⟨wv_F (by decide) cu.1, CT_fr F (fun k h1 h2 q => by omega) cu.2⟩ (fr_tr fu (fr_mo F (fun k q => by unfold SK1; omega)))
end D1
section D81
variable {E : gk_E} {d : Nat} {h : gk_H} {s : gS} {n : Nat}
theorem s_wo_isShown_81 {K : Int32 → gk_H → Prop} {p : Nat} {w : gk_WV} (hp : p < 10) (e : wv h 81 = w) (hk : K (nb_b (shB w p)) h) : gk_ci E (d + 2) jwo_isShown [.ref 81, .int (nI p)] h K := by
  have eh : h.2.1 84 p = w.2.2.2.1 p := wv_h (a := 81) e hp
  refine gk_ci_mk (x_wo_isShown_81 (s_wo_isOwned_81 (by omega) ?_))
  rw [wv_f e (s := 1) (by decide), nI_clamp (by omega), eh]
  unfold shB at hk
  refine bsel (fun b => ⟨Or.inl rfl, ?_⟩) (fun b => ⟨vp_in_nI (by omega) (by decide), fun q => ⟨Or.inl rfl, ?_⟩, fun q => ⟨Or.inr rfl, ?_⟩⟩)
  · rw [b] at hk; exact hk
  · rw [b, decide_eq_true q] at hk; exact hk
  · rw [b, decide_eq_false q] at hk; exact hk
theorem s_ke_keepDiary_87 {K : gk_H → Prop} (cs : CS 81 h s) (g : gd n s) (k : ∀ h', CS 81 h' (diaP true s s.2.1.2.1) → fr SK81 h h' → K h') : gk_cv E (d + 6) jke_keepDiary [.ref 87] h K := by
  have hn := g.1.1.1
  have h16 : s.2.1.2.1 ≤ 16 := g.2.1.2.1
  refine gk_cv_mk (x_ke_keepDiary_87 (fe ?_))
  refine lp_up (N := s.2.1.2.1) (fun i (u : gk_H) => g_ke_keepDiary_87_2 E (d + 5) (gk_qv K) (nI i) u) (fun i u => CS 81 u (diaP true s i) ∧ fr SK81 h u) ?_ ?_ 0 h (Nat.zero_le _) ⟨cs, fr_rf⟩
  · rintro i u hi ⟨cu, fu⟩ ih
    obtain ⟨gi, si⟩ := gd_dia (th := true) g i (by omega)
    have ec : u.2.1 15 2 = nI s.2.1.2.1 := by have := cu.2.1.2.1; rw [si.2.1] at this; exact this
    have ed : ∀ j, j < 4 * s.2.1.2.1 → u.2.1 17 j = (diaP true s i).2.2.2.1 j := by have := cu.2.2.2.1; rw [si.2.1] at this; exact this
    refine x_ke_keepDiary_87_2 (s_tx_count_7 (k := 2) (by decide) (by decide) (pk_le s.2.1.2.1 i (fun q => by omega) (fun _ => ?_) (hx := ec)))
    rw [show nI i * (4 : Int32) = nI (4 * i) by rw [Nat.mul_comm]; exact nI_mulN i 4]
    refine fe ?_
    rw [show nI (4 * i) + (1 : Int32) = nI (4 * i + 1) from nI_add _ 1, show nI (4 * i) + (2 : Int32) = nI (4 * i + 2) from nI_add _ 2, show nI (4 * i) + (3 : Int32) = nI (4 * i + 3) from nI_add _ 3, nI_clamp (n := 4 * i) (by omega), nI_clamp (n := 4 * i + 1) (by omega), nI_clamp (n := 4 * i + 2) (by omega), nI_clamp (n := 4 * i + 3) (by omega), ed _ (by omega), ed _ (by omega), ed _ (by omega), ed _ (by omega), wv_f cu.1 (s := 5) (by decide), nI_1]
    refine ⟨vp_in_nI (by omega) (by decide), fe ⟨vp_in_nI (by omega) (by decide), fe ⟨vp_in_nI (by omega) (by decide), fe ⟨vp_in_nI (by omega) (by decide), ?_⟩⟩⟩⟩
    have id := dOk_isD (gi.2.2.2.1 i (by rw [si.2.1]; exact hi))
    refine ⟨fun q => fe (ih u ⟨?_, fu⟩), fun q => s_ke_canDo_87 cu gi (fun z => absurd ⟨_, _, _, id⟩ z) (fun a' p' c' i' u1 f1 => ?_)⟩
    · have : diaP true s (i + 1) = diaP true s i := by rw [diaP]; unfold entP; rw [if_neg (fun y => q y.1)]
      rw [this]; exact cu
    · rw [isD_u hn id i']
      have c1 : CS 81 u1 (diaP true s i) := CS_fr f1 (fun k h1 h2 q => by unfold S_teA at q; omega) (fun i hi q => by unfold S_teA at q; omega) cu
      have f2 : fr SK81 h u1 := fr_tr fu (fr_mo f1 (fun k q => by unfold S_teA at q; unfold SK81; omega))
      refine bsel (fun y => fe (ih u1 ⟨?_, f2⟩)) (fun y => s_ke_carryOut_87 id c1 gi (fun u2 c2 f3 => fe (ih u2 ⟨?_, fr_tr f2 f3⟩)))
      · have : diaP true s (i + 1) = diaP true s i := by rw [diaP]; unfold entP; rw [if_neg (fun z => by rw [y] at z; exact absurd z.2 (by decide))]
        rw [this]; exact c1
      · have : diaP true s (i + 1) = doP true ((diaP true s i).2.2.2.1 (4 * i + 1)).toNatClampNeg ((diaP true s i).2.2.2.1 (4 * i + 2)).toNatClampNeg ((diaP true s i).2.2.2.1 (4 * i + 3)).toNatClampNeg (diaP true s i) := by rw [diaP]; unfold entP; rw [if_pos ⟨q, y⟩]
        rw [this]; exact c2
  · rintro u ⟨cu, fu⟩
    obtain ⟨gi, si⟩ := gd_dia (th := true) g _ (Nat.le_refl _)
    have ec : u.2.1 15 2 = nI s.2.1.2.1 := by have := cu.2.1.2.1; rw [si.2.1] at this; exact this
    exact x_ke_keepDiary_87_2 (s_tx_count_7 (k := 2) (by decide) (by decide) (pk_le s.2.1.2.1 s.2.1.2.1 (fun _ => k u cu fu) (fun q => by omega) (hx := ec)))
theorem s_ke_creepIn_87 {K : Int32 → gk_H → Prop} {p : Nat} (hp : p < n) (cs : CS 81 h s) (g : gd n s) (k : ∀ h', CS 81 h' (crP true p s) → fr SK81 h h' → K (nI (crN true s p)) h') : gk_ci E (d + 6) jke_creepIn [.ref 87, .int (nI p)] h K := by
  have hn := g.1.1.1
  have wr := GW_wr g.1
  have ed : h.2.2 82 p = s.1.2.1 p := wv_d (a := 81) cs.1 (by omega)
  have vp : vp_in (nI p) 10 := vp_in_nI (by omega) (by decide)
  refine gk_ci_mk (x_ke_creepIn_87 ⟨vp, ?_⟩)
  rw [nI_clamp (by omega), ed]
  refine fe (s_gr_shrunk (n := 1) (by decide) (fe ?_))
  have er : s.1.2.1 p &&& (gShN (s.1.2.1 p) 1 ^^^ (-1 : Int64)) = rimG (s.1.2.1 p) := rfl
  rw [er, nb_cmp0]
  refine ⟨fun q => fe ?_, fun q => ?_⟩
  · refine lp_up (N := 5) (fun j (u : gk_H) => g_ke_creepIn_87_35 E (d + 5) (gk_qi K) (nI p) (s.1.2.1 p) (rimG (s.1.2.1 p)) (nI j) u) (fun j u => 1 ≤ j ∧ CS 81 u s ∧ fr SK81 h u ∧ ∀ t, 1 ≤ t → t < j → u.2.1 88 t = cre s.1 s.2 p (nI t)) ?_ ?_ 1 h (by decide) ⟨Nat.le_refl _, cs, fr_rf, fun t h1 h2 => by omega⟩
    · rintro j u hj ⟨j1, cu, fu, hu⟩ ih
      refine x_ke_creepIn_87_35 (pk_lt 4 j (fun q => by omega) (fun _ => (s_te_tell_81 (by omega) cu.1 (GW_to g.1) cu.2 g.2).2.2 (nI j) _ fun u' f => ⟨vp_in_nI (by omega) (by decide), fe (fe ?_)⟩))
      rw [nI_1, nI_clamp (by omega)]
      have F : fr (fun k => S_teA k ∨ k = 88) u (gk_ha u' 88 j (cre s.1 s.2 p (nI j))) := fr_tr (fr_mo f (fun k q => Or.inl q)) (fr_ha (Or.inr rfl))
      refine ih _ ⟨by omega, CS_fr F (fun k h1 h2 q => by unfold S_teA at q; omega) (fun i hi q => by unfold S_teA at q; omega) cu, fr_tr fu (fr_mo F (fun k q => by unfold S_teA at q; unfold SK81; omega)), fun t h1 h2 => ?_⟩
      rw [ha_a]
      by_cases z : t = j
      · rw [if_pos ⟨rfl, z⟩, z]; rfl
      · rw [if_neg (fun y => z y.2), (f 88 (by unfold S_teA; omega)).2.1]
        exact hu t h1 (by omega)
    · rintro u ⟨j1, cu, fu, hu⟩
      refine x_ke_creepIn_87_35 (pk_lt 4 5 (fun _ => fe (fe ?_)) (fun q => by omega))
      refine lp_up (N := 64) (fun c (σ : Int64 × gk_H) => g_ke_creepIn_87_74 E (d + 5) (gk_qi K) (nI p) (s.1.2.1 p) (rimG (s.1.2.1 p)) σ.1 (nI c) σ.2) (fun c σ => σ.1 = (crL true s p c).2 ∧ CS 81 σ.2 (wF s.1 6 (crL true s p c).1, s.2) ∧ fr SK81 h σ.2 ∧ ∀ t, 1 ≤ t → t < 5 → σ.2.2.1 88 t = cre s.1 s.2 p (nI t)) ?_ ?_ 0 (0, u) (by decide) ⟨rfl, ?_, fu, hu⟩
      · rintro c ⟨g0, u⟩ hc ⟨e1, e2, e3, e4⟩ ih
        refine x_ke_creepIn_87_74 (pk_le 64 c (fun q => by omega) (fun _ => s_gr_isDry hc ?_))
        rw [rim_bit hc, nI_1]
        refine bsel (fun b => fe (ih (g0, u) ?_)) (fun b => s_gr_wetBeside hc ⟨vp_in_nI (by have := wet_4 (f := nb_bitL (s.1.2.1 p)) (c := c); omega) (by decide), ?_⟩)
        · have ec : crL true s p (c + 1) = crL true s p c := by
            rw [crL, if_neg]
            rintro ⟨z1, z2⟩
            rw [z1, decide_eq_false z2] at b
            exact absurd b (by decide)
          rw [ec]; exact ⟨e1, e2, e3, e4⟩
        · have hb : nb_bitL (s.1.2.1 p) c = true ∧ wet (nb_bitL (s.1.2.1 p)) c ≠ 0 := by
            rw [Bool.and_eq_true] at b
            refine ⟨b.1, fun z => ?_⟩
            rw [decide_eq_true z] at b
            exact absurd b.2 (by decide)
          have ec := crL.eq_2 true s p c
          rw [if_pos hb] at ec
          have w4 := wet_4 (f := nb_bitL (s.1.2.1 p)) (c := c)
          have w1 := hb.2
          rw [nI_clamp (by omega)]
          have e5 : u.2.1 88 (wet (nb_bitL (s.1.2.1 p)) c) = cre s.1 s.2 p (nI (wet (nb_bitL (s.1.2.1 p)) c)) := e4 _ (by omega) (by omega)
          rw [e5]
          refine s_ke_isHit_87 e2 fun u' c' f' => bsel (fun y => fe (ih (g0, u') ?_)) (fun y => fe (fe (ih (g0 ||| ((1 : Int64) <<< ((nI c).toInt64 &&& 63)), u') ?_)))
          · rw [ec, if_neg (by rw [y]; decide)]
            exact ⟨e1, c', fr_tr e3 (fr_mo f' (fun k q => by unfold SK81; omega)), fun t h1 h2 => by show u'.2.1 88 t = _; rw [(f' 88 (by omega)).2.1]; exact e4 t h1 h2⟩
          · rw [ec, if_pos y]
            exact ⟨by rw [← e1], c', fr_tr e3 (fr_mo f' (fun k q => by unfold SK81; omega)), fun t h1 h2 => by show u'.2.1 88 t = _; rw [(f' 88 (by omega)).2.1]; exact e4 t h1 h2⟩
      · rintro ⟨g0, u⟩ ⟨e1, e2, e3, e4⟩
        have e1 : g0 = (crL true s p 64).2 := e1
        refine x_ke_creepIn_87_74 (pk_le 64 64 (fun _ => ⟨vp, ?_⟩) (fun q => by omega))
        rw [nI_clamp (by omega), e1]
        refine fe (s_jl_bitCount (fe ?_))
        have F : fr (fun k => 81 ≤ k ∧ k ≤ 86) u (gk_hl u 82 p (s.1.2.1 p &&& ((crL true s p 64).2 ^^^ (-1 : Int64)))) := fr_hl (by omega)
        have cw : CS 81 (gk_hl u 82 p (s.1.2.1 p &&& ((crL true s p 64).2 ^^^ (-1 : Int64)))) (crW true s p, s.2) := ⟨wv_D (a := 81) (by omega) e2.1, CT_fr F (fun k h1 h2 q => by omega) e2.2⟩
        have F2 : fr SK81 h (gk_hl u 82 p (s.1.2.1 p &&& ((crL true s p 64).2 ^^^ (-1 : Int64)))) := fr_tr e3 (fr_mo F (fun k q => by unfold SK81; omega))
        have o64 : nb_onesL (crL true s p 64).2 ≤ 64 := nb_cnt_le _ _
        refine pk_le (nb_onesL (crL true s p 64).2) 0 (fun q => k _ ?_ F2) (fun q => s_ke_note_87 (s := (crW true s p, s.2)) cw wr fun h' c' f' => k h' ?_ (fr_tr F2 f'))
        · unfold crP; rw [if_pos (show crN true s p = 0 by unfold crN; omega)]; exact cw
        · unfold crP; rw [if_neg (show ¬ crN true s p = 0 by unfold crN; omega)]; exact c'
      · show CS 81 u (wF s.1 6 (s.1.1 6), s.2)
        rw [wF_id]; exact cu
  · have z : ∀ c, c < 64 → ¬ (nb_bitL (s.1.2.1 p) c = true ∧ wet (nb_bitL (s.1.2.1 p)) c ≠ 0) := fun c hc y => by
      have := rim_bit (g := s.1.2.1 p) hc
      rw [q, bL_0, y.1, decide_eq_false y.2] at this
      cases this
    obtain ⟨z1, z2⟩ := crP_0 (th := true) z
    have := k h (by rw [z2]; exact cs) fr_rf
    rw [z1] at this
    exact this
theorem s_ke_receive_87 {K : gk_H → Prop} {p : Nat} (hp : p < 10) (cs : CS 81 h s) (g : gd n s) (k : ∀ h', CS 81 h' (rcP true p s) → fr SK81 h h' → K h') : gk_cv E (d + 5) jke_receive [.ref 87, .int (nI p)] h K := by
  have wr := GW_wr g.1
  refine gk_cv_mk (x_ke_receive_87 ((s_te_tell_81 hp cs.1 (GW_to g.1) cs.2 g.2).2.1 _ fun h1 f1 => fe ?_))
  have c1 : CS 81 h1 s := CS_fr f1 (fun k h1 h2 q => by unfold S_teA at q; omega) (fun i hi q => by unfold S_teA at q; omega) cs
  rw [wv_f c1.1 (s := 4) (by decide)]
  refine s_wo_earn_81 (wv_F (by decide) c1.1) fun h2 w2 f2 => ?_
  have F : fr (fun k => k = 81) h1 h2 := fr_tr (fr_hf rfl) f2
  have c2 : CS 81 h2 (rcW s p, s.2) := ⟨w2, CT_fr F (fun k h1 h2 q => by omega) c1.2⟩
  have F2 : fr SK81 h h2 := fr_tr (fr_mo f1 (fun k q => by unfold S_teA at q; unfold SK81; omega)) (fr_mo F (fun k q => by unfold SK81; omega))
  refine ⟨fun q => k h2 ?_ F2, fun q => s_ke_note_87 (s := (rcW s p, s.2)) c2 wr fun h' c' f' => k h' ?_ (fr_tr F2 f')⟩
  · unfold rcP; rw [if_pos (show com s.1 s.2 p ≤ 0 from q)]; exact c2
  · unfold rcP; rw [if_neg (show ¬ com s.1 s.2 p ≤ 0 from q)]; exact c'
theorem s_ke_passDay_87 {K : Int32 → gk_H → Prop} (cs : CS 81 h s) (g : gd n s) (k : ∀ h', CS 81 h' (dayS true n s) → fr SK81 h h' → K (dayC true n s).1 h') : gk_ci E (d + 7) jke_passDay [.ref 87] h K := by
  have hn := g.1.1.1
  obtain ⟨g1, s1⟩ := gd_dia (th := true) g _ (Nat.le_refl _)
  have g2 : gd n (dayC true n s).2 := (gd_crA (th := true) g1 n (Nat.le_refl _)).1
  refine gk_ci_mk (x_ke_passDay_87 (s_ke_keepDiary_87 cs g fun h1 c1 f1 => fe (fe ?_)))
  refine lp_up (N := n) (fun p (u : gk_H) => g_ke_passDay_87_8 E (d + 6) (gk_qi K) (crA true (diaP true s s.2.1.2.1) p).1 (nI p) u) (fun p u => CS 81 u (crA true (diaP true s s.2.1.2.1) p).2 ∧ fr SK81 h u) ?_ ?_ 0 h1 (Nat.zero_le _) ⟨c1, f1⟩
  · rintro p u hp ⟨cu, fu⟩ ih
    have gp := (gd_crA (th := true) g1 p (by omega)).1
    refine x_ke_passDay_87_8 (pk_le n p (fun q => by omega) (fun _ => s_wo_isShown_81 (by omega) cu.1 ?_) (hx := (wv_f cu.1 (by decide)).trans gp.1.1.2))
    rw [nI_1]
    have ec := crA.eq_2 true (diaP true s s.2.1.2.1) p
    refine bsel (fun b => fe ?_) (fun b => s_ke_creepIn_87 hp cu gp fun u' c' f' => fe (fe ?_))
    · rw [if_neg (by rw [b]; decide)] at ec
      have := ih u ⟨by rw [ec]; exact cu, fu⟩
      rw [ec] at this; exact this
    · rw [if_pos b] at ec
      have := ih u' ⟨by rw [ec]; exact c', fr_tr fu f'⟩
      rw [ec] at this; exact this
  · rintro u ⟨cu, fu⟩
    refine x_ke_passDay_87_8 (pk_le n n (fun _ => fe ?_) (fun q => by omega) (hx := (wv_f cu.1 (by decide)).trans g2.1.1.2))
    refine lp_up (N := n) (fun p (u : gk_H) => g_ke_passDay_87_46 E (d + 6) (gk_qi K) (dayC true n s).1 (nI p) u) (fun p u => CS 81 u (rcA true (dayC true n s).2 p) ∧ fr SK81 h u) ?_ ?_ 0 u (Nat.zero_le _) ⟨cu, fu⟩
    · rintro p u hp ⟨cu, fu⟩ ih
      have gp := (gd_rcA (th := true) g2 p).1
      refine x_ke_passDay_87_46 (pk_le n p (fun q => by omega) (fun _ => s_wo_isShown_81 (by omega) cu.1 ?_) (hx := (wv_f cu.1 (by decide)).trans gp.1.1.2))
      rw [nI_1]
      have ec := rcA.eq_2 true (dayC true n s).2 p
      refine bsel (fun b => fe ?_) (fun b => s_ke_receive_87 (by omega) cu gp fun u' c' f' => fe ?_)
      · rw [if_neg (by rw [b]; decide)] at ec
        exact ih u ⟨by rw [ec]; exact cu, fu⟩
      · rw [if_pos b] at ec
        exact ih u' ⟨by rw [ec]; exact c', fr_tr fu f'⟩
    · rintro u ⟨cu, fu⟩
      have gp := (gd_rcA (th := true) g2 n).1
      refine x_ke_passDay_87_46 (pk_le n n (fun _ => ?_) (fun q => by omega) (hx := (wv_f cu.1 (by decide)).trans gp.1.1.2))
      rw [wv_f cu.1 (s := 5) (by decide)]
      have F : fr (fun k => k = 81) u (gk_hf u 81 5 ((rcA true (dayC true n s).2 n).1.1 5 + 1)) := fr_hf rfl
      exact k _ ⟨wv_F (by decide) cu.1, CT_fr F (fun k h1 h2 q => by omega) cu.2⟩ (fr_tr fu (fr_mo F (fun k q => by unfold SK81; omega)))
end D81
