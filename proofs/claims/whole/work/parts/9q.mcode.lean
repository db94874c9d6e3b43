/-! the reference reads: tokens, codes -/
theorem RTok_3 {k v : Nat} {tok val : Int32} (r : RTok k v tok val) : (k = 1 → tok = 3 ∧ val = nI v ∧ v < 10000) ∧ (¬ k = 1 → ¬ tok = 3) := by
  rcases r with ⟨a, b⟩ | ⟨a, b, c, d⟩ | ⟨a, b⟩ | ⟨-, a, a', b, c⟩ | ⟨w, hw, a, b, c⟩
  · exact ⟨fun q => by omega, fun _ => by rw [b]; decide⟩
  · exact ⟨fun _ => ⟨b, c, d⟩, fun q => absurd a q⟩
  · exact ⟨fun q => by omega, fun _ => by rw [b]; decide⟩
  · exact ⟨fun q => by omega, fun _ => by rw [b]; decide⟩
  · exact ⟨fun q => by omega, fun _ => by rw [b]; decide⟩
theorem RTok_2 {k v : Nat} {tok val : Int32} (r : RTok k v tok val) : (100 ≤ k → tok = 2 ∧ k < 125 ∧ val = nI (k - 100)) ∧ (k < 100 → ¬ tok = 2) := by
  rcases r with ⟨a, b⟩ | ⟨a, b, c, d⟩ | ⟨a, b⟩ | ⟨-, a, a', b, c⟩ | ⟨w, hw, a, b, c⟩
  · exact ⟨fun q => by omega, fun _ => by rw [b]; decide⟩
  · exact ⟨fun q => by omega, fun _ => by rw [b]; decide⟩
  · exact ⟨fun q => by omega, fun _ => by rw [b]; decide⟩
  · exact ⟨fun q => by omega, fun _ => by rw [b]; decide⟩
  · exact ⟨fun _ => ⟨b, by omega, by rw [c, a, Nat.add_sub_cancel_left]⟩, fun q => by omega⟩
theorem RTok_4 {k v : Nat} {tok val : Int32} (r : RTok k v tok val) : (39 < k → k < 64 → tok = 4 ∧ val = nI k) ∧ (¬ (39 < k ∧ k < 64) → ¬ tok = 4) := by
  rcases r with ⟨a, b⟩ | ⟨a, b, c, d⟩ | ⟨a, b⟩ | ⟨-, a, a', b, c⟩ | ⟨w, hw, a, b, c⟩
  · exact ⟨fun q => by omega, fun _ => by rw [b]; decide⟩
  · exact ⟨fun q => by omega, fun _ => by rw [b]; decide⟩
  · exact ⟨fun q => by omega, fun _ => by rw [b]; decide⟩
  · exact ⟨fun _ _ => ⟨b, c⟩, fun q => absurd ⟨a', a⟩ q⟩
  · exact ⟨fun q q2 => by omega, fun _ => by rw [b]; decide⟩
theorem RTok_0 {k v : Nat} {tok val : Int32} (r : RTok k v tok val) : (k = 0 → tok = 0) ∧ (¬ k = 0 → ¬ tok = 0) := by
  rcases r with ⟨a, b⟩ | ⟨a, b, c, d⟩ | ⟨a, b⟩ | ⟨-, a, a', b, c⟩ | ⟨w, hw, a, b, c⟩
  · exact ⟨fun _ => b, fun q => absurd a q⟩
  · exact ⟨fun q => by omega, fun _ => by rw [b]; decide⟩
  · exact ⟨fun q => by omega, fun _ => by rw [b]; decide⟩
  · exact ⟨fun q => by omega, fun _ => by rw [b]; decide⟩
  · exact ⟨fun q => by omega, fun _ => by rw [b]; decide⟩
section MTK
variable {E : gk_E} {d : Nat} {h : gk_H} {n p : Nat} {s : Nat → Nat} {K : Int32 → gk_H → Prop}
theorem s_mo_isSign {c : Nat} (rt : RTk h n s p) (h1 : 39 < c) (h2 : c < 64) (k1 : tK s n p = c → K 1 h) (k0 : ¬ tK s n p = c → K 0 h) : gk_ci E (d + 1) jmo_isSign [.ref 112, .int (nI c)] h K := by
  have r4 := RTok_4 rt.2.2
  refine gk_ci_mk (x_mo_isSign ?_)
  by_cases q : 39 < tK s n p ∧ tK s n p < 64
  · obtain ⟨e1, e2⟩ := r4.1 q.1 q.2
    refine zT e1 ?_
    rw [e2]
    exact pk_ne (tK s n p) c (fun z => ⟨Or.inl rfl, k0 z⟩) (fun z => ⟨Or.inr rfl, k1 z⟩)
  · exact zF (r4.2 q) ⟨Or.inl rfl, k0 (by omega)⟩
theorem s_mo_isWord {w : Nat} (rt : RTk h n s p) (hw : w < 25) (k1 : tK s n p = 100 + w → K 1 h) (k0 : ¬ tK s n p = 100 + w → K 0 h) : gk_ci E (d + 1) jmo_isWord [.ref 112, .int (nI w)] h K := by
  have r2 := RTok_2 rt.2.2
  refine gk_ci_mk (x_mo_isWord ?_)
  by_cases q : 100 ≤ tK s n p
  · obtain ⟨e1, e0, e2⟩ := r2.1 q
    refine zT e1 ?_
    rw [e2]
    exact pk_ne (tK s n p - 100) w (fun z => ⟨Or.inl rfl, k0 (by omega)⟩) (fun z => ⟨Or.inr rfl, k1 (by omega)⟩)
  · exact zF (r2.2 (by omega)) ⟨Or.inl rfl, k0 (by omega)⟩
end MTK
def mF (f : Nat) : Prop := (11 ≤ f ∧ f ≤ 14) ∨ f = 24 ∨ (28 ≤ f ∧ f ≤ 29)
def MD (h h' : gk_H) : Prop := fr (fun k => k = 112 ∨ k = 125 ∨ k = 126) h h' ∧ (∀ f, ¬ mF f → h'.1 112 f = h.1 112 f) ∧ ∀ i, i < 800 → h'.2.1 125 i = h.2.1 125 i ∧ h'.2.1 126 i = h.2.1 126 i
theorem MD_rf {h : gk_H} : MD h h := ⟨fr_rf, fun _ _ => rfl, fun _ _ => ⟨rfl, rfl⟩⟩
theorem MD_tr {h1 h2 h3 : gk_H} (a : MD h1 h2) (b : MD h2 h3) : MD h1 h3 := ⟨fr_tr a.1 b.1, fun f q => (b.2.1 f q).trans (a.2.1 f q), fun i q => ⟨(b.2.2 i q).1.trans (a.2.2 i q).1, (b.2.2 i q).2.trans (a.2.2 i q).2⟩⟩
theorem MD_RD {h h' : gk_H} (a : RD h h') : MD h h' := by
  refine ⟨fun k hk => ⟨?_, by rw [a.1], by rw [a.1]⟩, fun f hf => a.2 112 f (fun q => hf (Or.inl q.2)), fun i _ => by rw [a.1]; exact ⟨rfl, rfl⟩⟩
  funext j
  exact a.2 k j (fun q => hk (Or.inl q.1))
theorem MD_hf {h h' : gk_H} {f : Nat} {x : Int32} (a : MD h h') (hf : mF f) : MD h (gk_hf h' 112 f x) := ⟨fr_tr a.1 (fr_hf (Or.inl rfl)), fun g hg => by
  rw [hf_f, if_neg (fun q => hg (by rw [q.2]; exact hf))]; exact a.2.1 g hg, a.2.2⟩
def MCo (h : gk_H) (C : gSg) : Prop := h.1 112 24 = nI C.length ∧ ∀ i x, C[i]? = some x → h.2.1 125 (800 + i) = x.1 ∧ h.2.1 126 (800 + i) = x.2
def RC (h0 h : gk_H) (s : Nat → Nat) (n p : Nat) (C : gSg) : Prop := p ≤ n ∧ MD h0 h ∧ RTk h n s p ∧ MCo h C
def RCf (h0 h : gk_H) (e : Nat × Nat) : Prop := MD h0 h ∧ h.1 112 28 = nI e.1 ∧ h.1 112 29 = nI e.2
def rK (h0 : gk_H) (s : Nat → Nat) (n : Nat) (K : Int32 → gk_H → Prop) (R : pRe (Nat × gSg)) : Prop := OC R (fun e => ∀ h', RCf h0 h' e → K (-1) h') (fun x => ∀ h', RC h0 h' s n x.1 (X x.2) → K 0 h')
theorem TMs_MD {h h' : gk_H} {n : Nat} {s : Nat → Nat} (a : MD h h') (t : TMs h n s) : TMs h' n s := ⟨t.1, (a.2.1 10 (by unfold mF; omega)).trans t.2.1, by rw [(a.1 118 (by omega)).2.1]; exact t.2.2⟩
theorem wr_MD {h h' : gk_H} (a : MD h h') (t : wordsR h) : wordsR h' := by unfold wordsR; rw [(a.1 119 (by omega)).2.1]; exact t
theorem RTk_hf {h : gk_H} {n p f : Nat} {s : Nat → Nat} {x : Int32} (hf : ¬ (11 ≤ f ∧ f ≤ 14)) (r : RTk h n s p) : RTk (gk_hf h 112 f x) n s p := by
  have e : ∀ g, 11 ≤ g → g ≤ 14 → (gk_hf h 112 f x).1 112 g = h.1 112 g := fun g h1 h2 => by rw [hf_f, if_neg (by omega)]
  unfold RTk at *
  rw [e 11 (by decide) (by decide), e 12 (by decide) (by decide), e 13 (by decide) (by decide), e 14 (by decide) (by decide)]
  exact r
theorem mco_add {op ar op' ar' : Nat → Int32} {b : Nat} {C : gSg} {x y : Int32} (c : ∀ i z, C[i]? = some z → op (b + i) = z.1 ∧ ar (b + i) = z.2) (e1 : ∀ i, op' i = if i = b + C.length then x else op i) (e2 : ∀ i, ar' i = if i = b + C.length then y else ar i) : ∀ i z, (C ++ [(x, y)])[i]? = some z → op' (b + i) = z.1 ∧ ar' (b + i) = z.2 := by
  intro i z hz
  rw [e1, e2]
  by_cases q : i = C.length
  · rw [q, List.getElem?_append_right (Nat.le_refl _), Nat.sub_self] at hz
    cases hz
    rw [q, if_pos rfl, if_pos rfl]
    exact ⟨rfl, rfl⟩
  · have hi : i < C.length := by
      obtain ⟨l, -⟩ := List.getElem?_eq_some_iff.mp hz
      rw [List.length_append] at l
      have l : i < C.length + 1 := l
      omega
    rw [List.getElem?_append_left hi] at hz
    rw [if_neg (by omega), if_neg (by omega)]
    exact c i z hz
section MCD
variable {E : gk_E} {d : Nat} {h h0 : gk_H} {n p : Nat} {s : Nat → Nat}
theorem s_rc_reads {K : gk_H → Prop} {C : gSg} (tm : TMs h0 n s) (wr : wordsR h0) (st : RC h0 h s n p C) (k : ∀ h', RC h0 h' s n (nxp s n p) C → K h') : gk_cv E (d + 4) jmo_reads [.ref 112] h K := by
  obtain ⟨hp, md, rt, mc⟩ := st
  obtain ⟨i, hi, e11, es⟩ : ∃ i, i ≤ n ∧ h.1 112 11 = nI i ∧ sk s n i = nxp s n p := by
    by_cases q : p < n
    · refine ⟨tkE s n p, (tkE_b q).2, ?_, ?_⟩
      · have := rt.1; rw [if_pos q] at this; exact this
      · unfold nxp; rw [if_pos q]
    · refine ⟨p, hp, ?_, ?_⟩
      · have := rt.1; rw [if_neg q] at this; exact this
      · unfold nxp sk; rw [if_neg q]; exact spn_e (fun z => q z.1)
  refine s_mo_reads (d := d) (TMs_MD md tm) (wr_MD md wr) hi e11 (fun h' rd rt' => k h' ⟨nxp_le hp, MD_tr md (MD_RD rd), by rw [← es]; exact rt', ?_, ?_⟩)
  · rw [rd.2 112 24 (by omega)]; exact mc.1
  · rw [rd.1]; exact mc.2
theorem s_rc_errs {K : Int32 → gk_H → Prop} {C : gSg} {f : Nat} (st : RC h0 h s n p C) (k : ∀ h', RCf h0 h' (f, p) → K (-1) h') : gk_ci E (d + 1) jmo_errs [.ref 112, .int (nI f)] h K := by
  obtain ⟨hp, md, rt, mc⟩ := st
  refine gk_ci_mk (x_mo_errs (fe (fe (k _ ⟨MD_hf (MD_hf md (by unfold mF; omega)) (by unfold mF; omega), ?_, ?_⟩))))
  · rw [hf_f, if_neg (by decide), hf_f, if_pos ⟨rfl, rfl⟩]
  · rw [hf_f, if_pos ⟨rfl, rfl⟩, hf_f, if_neg (by decide)]; exact rt.2.1
theorem s_rc_emits {K : gk_H → Prop} {C : gSg} {x y : Int32} (st : RC h0 h s n p C) (hC : C.length < 400) (k : ∀ h', RC h0 h' s n p (C ++ [(x, y)]) → K h') : gk_cv E (d + 1) jmo_emits [.ref 112, .int x, .int y] h K := by
  obtain ⟨hp, md, rt, c1, c2⟩ := st
  have ei : (800 : Int32) + nI C.length = nI (800 + C.length) := nI_add 800 C.length
  refine gk_cv_mk (x_mo_emits ?_)
  unfold w_mo_emits
  rw [c1, ei]
  refine ⟨vp_in_nI (by omega) (by decide), ?_⟩
  rw [nI_clamp (by omega)]
  refine fe ?_
  have e1 : (gk_ha h 125 (800 + C.length) x).1 112 24 = nI C.length := c1
  rw [e1, ei, nI_clamp (by omega)]
  refine ⟨vp_in_nI (by omega) (by decide), fe ?_⟩
  have e2 : (gk_ha (gk_ha h 125 (800 + C.length) x) 126 (800 + C.length) y).1 112 24 = nI C.length := c1
  rw [e2, nI_1]
  refine fe (k _ ⟨hp, ⟨fr_tr md.1 (fr_tr (fr_tr (fr_ha (by omega)) (fr_ha (by omega))) (fr_hf (by omega))), fun f hf => ?_, fun i hi => ?_⟩, RTk_hf (by decide) rt, ?_, ?_⟩)
  · rw [hf_f, if_neg (fun q => hf (by unfold mF; omega))]; exact md.2.1 f hf
  · rw [hf_2, ha_o (by decide), OW_set, if_neg (by omega), OW_set, if_neg (by omega), ha_o (by decide)]
    exact md.2.2 i hi
  · rw [hf_f, if_pos ⟨rfl, rfl⟩, List.length_append]; rfl
  · exact mco_add c2 (fun i => by rw [hf_2, ha_o (by decide), OW_set]) (fun i => by rw [hf_2, OW_set, ha_o (by decide)])
theorem s_mo_readUnit {K : Int32 → gk_H → Prop} {c : gSg} (tm : TMs h0 n s) (wr : wordsR h0) (st : RC h0 h s n p (X c)) (hl : (X c).length ≤ p) (k : OC (pU (tkT s n) p) (fun e => ∀ h', RCf h0 h' e → K (-1) h') (fun x => ∀ h', RC h0 h' s n x.1 (X (c ++ [x.2])) → K 0 h')) : gk_ci E (d + 5) jmo_readUnit [.ref 112] h K := by
  have h4 := tm.1
  have rt := st.2.2.1
  have r3 := RTok_3 rt.2.2
  have r2 := RTok_2 rt.2.2
  refine gk_ci_mk (x_mo_readUnit ?_)
  unfold pU at k
  by_cases z : tK s n p = 1
  · rw [if_pos (show (tkT s n).1 p = 1 from z)] at k
    have hp : p < n := by have := tK_c s n p; omega
    obtain ⟨e1, e2, e3⟩ := r3.1 z
    refine zF (r2.2 (by omega)) (fe (zT rfl (yT e1 (yT rfl (yT rfl ?_)))))
    rw [e2]
    exact s_rc_emits (d := d + 3) st (by omega) (fun h1 st1 => s_rc_reads (d := d) tm wr st1 (fun h2 st2 => k h2 (by rw [X_app]; exact st2)))
  · rw [if_neg (show ¬ (tkT s n).1 p = 1 from z)] at k
    by_cases z2 : 100 ≤ tK s n p
    · obtain ⟨e1, e0, e2⟩ := r2.1 z2
      refine zT e1 ?_
      rw [e2]
      by_cases z3 : 107 ≤ tK s n p ∧ tK s n p ≤ 115
      · rw [if_pos (show 107 ≤ (tkT s n).1 p ∧ (tkT s n).1 p ≤ 115 from z3)] at k
        have hp : p < n := by have := tK_c s n p; omega
        refine gk_ci_mk (x_mo_canAsk (s_in1 ⟨nI_le (a := 7) (by omega) (by omega), nI_le (b := 15) (by omega) (by decide)⟩ ⟨Or.inr rfl, yF (by decide) (fe (zF (by decide) (yF (by decide) (yF (by decide) ?_))))⟩))
        rw [e2, show nI (tK s n p - 100) - 7 = nI (tK s n p - 107) by rw [show nI (tK s n p - 100) - 7 = nI (tK s n p - 100 - 7) from pk_sub (b := 7) (by omega)]; congr 1]
        exact s_rc_emits (d := d + 3) st (by omega) (fun h1 st1 => s_rc_reads (d := d) tm wr st1 (fun h2 st2 => k h2 (by rw [X_app]; exact st2)))
      · rw [if_neg (show ¬ (107 ≤ (tkT s n).1 p ∧ (tkT s n).1 p ≤ 115) from z3)] at k
        refine gk_ci_mk (x_mo_canAsk (s_in0 (fun y => z3 ?_) ⟨Or.inl rfl, yT rfl (fe (zT rfl (yF (r3.2 z) ?_)))⟩))
        · have y1 := (nI_leI (a := 7) (by decide) (by omega)).mp y.1
          have y2 := (nI_leI (b := 15) (by omega) (by decide)).mp y.2
          omega
        · exact s_rc_errs (d := d + 3) (f := 1) st (fun h' q' => k h' q')
    · rw [if_neg (show ¬ (107 ≤ (tkT s n).1 p ∧ (tkT s n).1 p ≤ 115) from fun y => z2 (Nat.le_trans (by decide) y.1))] at k
      exact zF (r2.2 (by omega)) (fe (zT rfl (yF (r3.2 z) (s_rc_errs (d := d + 3) (f := 1) st (fun h' q' => k h' q')))))
theorem pS_w {τ : gTk} {f w p : Nat} {c : gSg} (h1 : ¬ τ.1 p = 42) (h2 : ¬ τ.1 p = 47) : pS τ f w p c = pS τ f 0 p (c ++ wt w) := by
  cases f with
  | zero => rw [pS, pS, wt_0, List.append_nil]
  | succ f => rw [pS, pS, if_neg h1, if_neg h2, wt_0, List.append_nil, if_neg h1, if_neg h2]
theorem g_mo_prod {K : Int32 → gk_H → Prop} (o : okK (tkT s n) n) (tm : TMs h0 n s) (wr : wordsR h0) : ∀ (f p : Nat) (c : gSg) (j : Nat) (h : gk_H), n - p ≤ f → (X c).length + j ≤ p → RC h0 h s n p (X c) → (∀ e h', (∀ w, pS (tkT s n) f w p c = .error e) → RCf h0 h' e → K (-1) h') → (∀ q c' f' h', p ≤ q → n - q ≤ f' → f' ≤ f → (X c').length + j ≤ q → ¬ tK s n q = 42 → ¬ tK s n q = 47 → (∀ w, pS (tkT s n) f w p c = pS (tkT s n) f' w q c') → RC h0 h' s n q (X c') → K 0 h') → g_mo_readProduct_10 E (d + 5) (gk_qi K) h := by
  have h4 := tm.1
  intro f
  induction f with
  | zero =>
    intro p c j h hf hl st ke ko
    have z := tK_c s n p
    exact x_mo_readProduct_10 (s_mo_isSign (d := d + 4) (c := 42) st.2.2.1 (by decide) (by decide) (fun q => by omega) (fun q => zT rfl (s_mo_isSign (d := d + 4) (c := 47) st.2.2.1 (by decide) (by decide) (fun q => by omega) (fun q2 => yT rfl (ko p c 0 h (Nat.le_refl _) hf (Nat.le_refl _) hl q q2 (fun _ => rfl) st)))))
  | succ f ih =>
    intro p c j h hf hl st ke ko
    have z := tK_c s n p
    refine x_mo_readProduct_10 (s_mo_isSign (d := d + 4) (c := 42) st.2.2.1 (by decide) (by decide) (fun q => zF (by decide) (s_mo_isSign (d := d + 4) (c := 42) st.2.2.1 (by decide) (by decide) (fun _ => fe ?_) (fun q2 => absurd q q2))) (fun q => zT rfl (s_mo_isSign (d := d + 4) (c := 47) st.2.2.1 (by decide) (by decide) (fun q2 => yF (by decide) (s_mo_isSign (d := d + 4) (c := 42) st.2.2.1 (by decide) (by decide) (fun q3 => absurd q3 q) (fun _ => fe ?_))) (fun q2 => yT rfl (ko p c (f + 1) h (Nat.le_refl _) hf (Nat.le_refl _) hl q q2 (fun _ => rfl) st)))))
    · have hp : p < n := by omega
      have hnx := nxp_b (s := s) hp
      have es : ∀ w, pS (tkT s n) (f + 1) w p c = (pU (tkT s n) (nxp s n p)).bind (fun x => pS (tkT s n) f w x.1 ((c ++ [x.2]) ++ [(4, 0)])) := fun w => by
        rw [pS, if_neg (show ¬ ((tkT s n).1 p = 43 ∨ (tkT s n).1 p = 45) from fun y => by have : tK s n p = 43 ∨ tK s n p = 45 := y; omega), if_pos (show (tkT s n).1 p = 42 from q)]; rfl
      refine s_rc_reads (d := d + 1) tm wr st (fun h1 st1 => zF (by decide) (zF (by decide) (s_mo_readUnit (d := d) tm wr st1 (by omega) ?_)))
      cases eu : pU (tkT s n) (nxp s n p) with
      | error e => exact fun h' q' => zT rfl (ke e h' (fun w => by rw [es, eu]; rfl) q')
      | ok x =>
        intro h' st'
        obtain ⟨u1, u2, u3, u4⟩ := bU o eu
        refine zF (by decide) (yF (by decide) (s_rc_emits (d := d + 4) st' ?_ (fun h2 st2 => ?_)))
        · rw [X_app, u4, List.length_append]; show (X c).length + 1 < 400; omega
        · have es2 : ∀ w, pS (tkT s n) (f + 1) w p c = pS (tkT s n) f w x.1 ((c ++ [x.2]) ++ [(4, 0)]) := fun w => by rw [es, eu]; rfl
          refine ih x.1 ((c ++ [x.2]) ++ [(4, 0)]) j h2 (by omega) ?_ (by rw [X_app _ [(4, 0)]]; exact st2) (fun e h3 he q' => ke e h3 (fun w => (es2 w).trans (he w)) q') (fun q' c' f' h3 a1 a2 a3 a4 a5 a6 a7 a8 => ko q' c' f' h3 (by omega) a2 (by omega) a4 a5 a6 (fun w => (es2 w).trans (a7 w)) a8)
          rw [X_app, X_app, u4, List.length_append, List.length_append]
          show (X c).length + 1 + 1 + j ≤ x.1
          omega
    · have hp : p < n := by omega
      have hnx := nxp_b (s := s) hp
      have es : ∀ w, pS (tkT s n) (f + 1) w p c = (pN (tkT s n) 1 10000 10000 (nxp s n p)).bind (fun x => pS (tkT s n) f w x.1 (c ++ [(5, nI x.2)])) := fun w => by
        rw [pS, if_neg (show ¬ ((tkT s n).1 p = 43 ∨ (tkT s n).1 p = 45) from fun y => by have : tK s n p = 43 ∨ tK s n p = 45 := y; omega), if_neg (show ¬ (tkT s n).1 p = 42 from q), if_pos (show (tkT s n).1 p = 47 from q2)]; rfl
      refine s_rc_reads (d := d + 1) tm wr st (fun h1 st1 => zT rfl ?_)
      have r3 := RTok_3 st1.2.2.1.2.2
      by_cases z1 : tK s n (nxp s n p) = 1
      · obtain ⟨e1, e2, e3⟩ := r3.1 z1
        refine yT e1 (zT rfl ?_)
        rw [e2]
        refine pk_ne (tkV s n (nxp s n p)) 0 (fun z0 => ?_) (fun z0 => ?_)
        · have en : pN (tkT s n) 1 10000 10000 (nxp s n p) = .ok (nxp s n (nxp s n p), tkV s n (nxp s n p)) := by
            unfold pN
            rw [if_pos (show (tkT s n).1 (nxp s n p) = 1 from z1), if_pos (show 1 ≤ (tkT s n).2.1 (nxp s n p) ∧ (tkT s n).2.1 (nxp s n p) < 10000 ∧ ¬ (tkT s n).2.1 (nxp s n p) = 10000 from ⟨by show 1 ≤ tkV s n (nxp s n p); omega, e3, by show ¬ tkV s n (nxp s n p) = 10000; omega⟩)]
            rfl
          have eu : pU (tkT s n) (nxp s n p) = .ok (nxp s n (nxp s n p), (0, nI (tkV s n (nxp s n p)))) := by
            unfold pU
            rw [if_pos (show (tkT s n).1 (nxp s n p) = 1 from z1)]
            rfl
          obtain ⟨u1, u2, u3, u4⟩ := bU o eu
          refine s_mo_readUnit (d := d) tm wr st1 (by omega) ?_
          rw [eu]
          intro h' st'
          refine zF (by decide) (yT rfl (s_rc_emits (d := d + 4) st' ?_ (fun h2 st2 => ?_)))
          · rw [X_app, u4, List.length_append]; show (X c).length + 1 < 400; omega
          · have es2 : ∀ w, pS (tkT s n) (f + 1) w p c = pS (tkT s n) f w (nxp s n (nxp s n p)) (c ++ [(5, nI (tkV s n (nxp s n p)))]) := fun w => by rw [es, en]; rfl
            have u2 : nxp s n p < nxp s n (nxp s n p) := u2
            refine ih (nxp s n (nxp s n p)) (c ++ [(5, nI (tkV s n (nxp s n p)))]) j h2 (by omega) ?_ ?_ (fun e h3 he q' => ke e h3 (fun w => (es2 w).trans (he w)) q') (fun q' c' f' h3 a1 a2 a3 a4 a5 a6 a7 a8 => ko q' c' f' h3 (by omega) a2 (by omega) a4 a5 a6 (fun w => (es2 w).trans (a7 w)) a8)
            · rw [X_app, X_five, List.length_append]
              show (X c).length + 2 + j ≤ _
              omega
            · rw [X_app, X_five]
              rw [X_app, List.append_assoc] at st2
              exact st2
        · refine s_rc_errs (d := d + 4) (f := 2) st1 (fun h' q' => ke (2, nxp s n p) h' (fun w => ?_) q')
          have en : pN (tkT s n) 1 10000 10000 (nxp s n p) = .error (2, nxp s n p) := by
            unfold pN
            rw [if_pos (show (tkT s n).1 (nxp s n p) = 1 from z1), if_neg (show ¬ (1 ≤ (tkT s n).2.1 (nxp s n p) ∧ (tkT s n).2.1 (nxp s n p) < 10000 ∧ ¬ (tkT s n).2.1 (nxp s n p) = 10000) from fun y => by have : 1 ≤ tkV s n (nxp s n p) := y.1; omega)]
          rw [es, en]; rfl
      · refine yF (r3.2 z1) (s_rc_errs (d := d + 4) (f := 1) st1 (fun h' q' => ke (1, nxp s n p) h' (fun w => ?_) q'))
        have en : pN (tkT s n) 1 10000 10000 (nxp s n p) = .error (1, nxp s n p) := by
          unfold pN
          rw [if_neg (show ¬ (tkT s n).1 (nxp s n p) = 1 from z1)]
        rw [es, en]; rfl
theorem s_mo_readProduct {K : Int32 → gk_H → Prop} {f j : Nat} {c : gSg} (o : okK (tkT s n) n) (tm : TMs h0 n s) (wr : wordsR h0) (hf : n - p ≤ f + 1) (hl : (X c).length + j ≤ p) (st : RC h0 h s n p (X c)) (ke : ∀ e h', (∀ w, (pU (tkT s n) p).bind (fun x => pS (tkT s n) f w x.1 (c ++ [x.2])) = .error e) → RCf h0 h' e → K (-1) h') (ko : ∀ q c' f' h', p ≤ q → n - q ≤ f' → f' ≤ f → (X c').length + 1 + j ≤ q + 1 → (X c').length + j ≤ q → ¬ tK s n q = 42 → ¬ tK s n q = 47 → (∀ w, (pU (tkT s n) p).bind (fun x => pS (tkT s n) f w x.1 (c ++ [x.2])) = pS (tkT s n) f' w q c') → RC h0 h' s n q (X c') → K 0 h') : gk_ci E (d + 6) jmo_readProduct [.ref 112] h K := by
  refine gk_ci_mk (x_mo_readProduct (s_mo_readUnit (d := d) tm wr st (by omega) ?_))
  cases eu : pU (tkT s n) p with
  | error e => exact fun h' q' => zT rfl (ke e h' (fun w => by rw [eu]; rfl) q')
  | ok x =>
    intro h' st'
    obtain ⟨u1, u2, u3, u4⟩ := bU o eu
    have es : ∀ w, (pU (tkT s n) p).bind (fun x => pS (tkT s n) f w x.1 (c ++ [x.2])) = pS (tkT s n) f w x.1 (c ++ [x.2]) := fun w => by rw [eu]; rfl
    refine zF (by decide) (g_mo_prod (d := d) o tm wr f x.1 (c ++ [x.2]) j h' (by omega) ?_ st' (fun e h3 he q' => ke e h3 (fun w => (es w).trans (he w)) q') (fun q c' f' h3 a1 a2 a3 a4 a5 a6 a7 a8 => ko q c' f' h3 (by omega) a2 a3 (by omega) a4 a5 a6 (fun w => (es w).trans (a7 w)) a8))
    rw [X_app, u4, List.length_append]
    show (X c).length + 1 + j ≤ x.1
    omega
theorem g_mo_sum {K : Int32 → gk_H → Prop} (o : okK (tkT s n) n) (tm : TMs h0 n s) (wr : wordsR h0) : ∀ (F f p : Nat) (c : gSg) (h : gk_H), f ≤ F → n - p ≤ f → (X c).length ≤ p → ¬ tK s n p = 42 → ¬ tK s n p = 47 → RC h0 h s n p (X c) → rK h0 s n K (pS (tkT s n) f 0 p c) → g_mo_readSum_10 E (d + 6) (gk_qi K) h := by
  have h4 := tm.1
  intro F
  induction F with
  | zero =>
    intro f p c h hF hf hl n1 n2 st k
    have z := tK_c s n p
    have f0 : f = 0 := by omega
    rw [f0, pS, wt_0, List.append_nil] at k
    exact x_mo_readSum_10 (s_mo_isSign (d := d + 5) (c := 43) st.2.2.1 (by decide) (by decide) (fun q => by omega) (fun q => zT rfl (s_mo_isSign (d := d + 5) (c := 45) st.2.2.1 (by decide) (by decide) (fun q => by omega) (fun q2 => yT rfl (k h st)))))
  | succ F ih =>
    intro f p c h hF hf hl n1 n2 st k
    have z := tK_c s n p
    have go : ∀ (w : Nat) (hw : w = if tK s n p = 43 then 2 else 3), tK s n p = 43 ∨ tK s n p = 45 → gk_cv E (d + 6) jmo_reads [.ref 112] h (fun h_6 => gk_ci E (d + 6) jmo_readProduct [.ref 112] h_6 (fun r_8 h_7 => (¬ r_8 = (-1 : Int32) → (gk_cv E (d + 6) jmo_emits [.ref 112, .int (nI w), .int (0 : Int32)] h_7 (fun h_9 => g_mo_readSum_10 E (d + 6) (gk_qi K) h_9))) ∧ (r_8 = (-1 : Int32) → (gk_qi K (some (.int (-1 : Int32))) h_7)))) := by
      intro w ew q
      have hp : p < n := by omega
      have hnx := nxp_b (s := s) hp
      obtain ⟨g, eg⟩ : ∃ g, f = g + 1 := ⟨f - 1, by omega⟩
      rw [eg, pS, if_pos (show (tkT s n).1 p = 43 ∨ (tkT s n).1 p = 45 from q), wt_0, List.append_nil, show (if (tkT s n).1 p = 43 then 2 else 3) = w from ew.symm] at k
      have w2 : w = 2 ∨ w = 3 := by rw [ew]; split <;> omega
      refine s_rc_reads (d := d + 2) tm wr st (fun h1 st1 => s_mo_readProduct (d := d) (f := g) (j := 1) o tm wr (by omega) (by omega) st1 (fun e h' he q' => ?_) (fun q c' f' h' a1 a2 a3 a0 a4 a5 a6 a7 a8 => ?_))
      · have k2 : rK h0 s n K ((pU (tkT s n) (nxp s n p)).bind (fun x => pS (tkT s n) g w x.1 (c ++ [x.2]))) := k
        rw [he w] at k2
        exact zT rfl (k2 h' q')
      · have k2 : rK h0 s n K ((pU (tkT s n) (nxp s n p)).bind (fun x => pS (tkT s n) g w x.1 (c ++ [x.2]))) := k
        rw [a7 w, pS_w (show ¬ (tkT s n).1 q = 42 from a5) (show ¬ (tkT s n).1 q = 47 from a6)] at k2
        have hq := a8.1
        refine zF (by decide) (s_rc_emits (d := d + 5) a8 (by omega) (fun h2 st2 => ih f' q (c' ++ wt w) h2 (by omega) a2 ?_ a5 a6 ?_ k2))
        · rw [X_app, X_wt (by omega), List.length_append, wt_l, show wl w = 1 by unfold wl; rw [if_neg (by omega)]]; omega
        · rw [X_app, X_wt (by omega), wt_s (by omega)]; exact st2
    refine x_mo_readSum_10 (s_mo_isSign (d := d + 5) (c := 43) st.2.2.1 (by decide) (by decide) (fun q => zF (by decide) ?_) (fun q => zT rfl (s_mo_isSign (d := d + 5) (c := 45) st.2.2.1 (by decide) (by decide) (fun q2 => yF (by decide) ?_) (fun q2 => yT rfl ?_))))
    · have r4 := (RTok_4 st.2.2.1.2.2).1 (by omega) (by omega)
      exact zT (by rw [r4.2, q]; rfl) (fe (go 2 (by rw [if_pos q]) (Or.inl q)))
    · have r4 := (RTok_4 st.2.2.1.2.2).1 (by omega) (by omega)
      exact zF (by rw [r4.2, q2]; decide) (fe (go 3 (by rw [if_neg q]) (Or.inr q2)))
    · have k2 : rK h0 s n K (.ok (p, c)) := by
        cases f with
        | zero => rw [pS, wt_0, List.append_nil] at k; exact k
        | succ g =>
          rw [pS, if_neg (show ¬ ((tkT s n).1 p = 43 ∨ (tkT s n).1 p = 45) from fun y => y.elim q q2), if_neg (show ¬ (tkT s n).1 p = 42 from n1), if_neg (show ¬ (tkT s n).1 p = 47 from n2), wt_0, List.append_nil] at k
          exact k
      exact k2 h st
theorem s_mo_readSum {K : Int32 → gk_H → Prop} {c : gSg} (o : okK (tkT s n) n) (tm : TMs h0 n s) (wr : wordsR h0) (st : RC h0 h s n p (X c)) (hl : (X c).length ≤ p) (k : rK h0 s n K (pSum (tkT s n) p c)) : gk_ci E (d + 7) jmo_readSum [.ref 112] h K := by
  have h4 := tm.1
  have hp := st.1
  unfold pSum at k
  refine gk_ci_mk (x_mo_readSum (s_mo_readProduct (d := d) (f := 400) (j := 0) o tm wr (by omega) (by omega) st (fun e h' he q' => ?_) (fun q c' f' h' a1 a2 a3 a0 a4 a5 a6 a7 a8 => ?_)))
  · rw [he 0] at k
    exact zT rfl (k h' q')
  · rw [a7 0] at k
    exact zF (by decide) (g_mo_sum (d := d) o tm wr f' f' q c' h' (Nat.le_refl _) a2 a4 a5 a6 a8 k)
theorem s_mo_readCompared {K : Int32 → gk_H → Prop} {c : gSg} (o : okK (tkT s n) n) (tm : TMs h0 n s) (wr : wordsR h0) (st : RC h0 h s n p (X c)) (hl : (X c).length ≤ p) (k : rK h0 s n K (pCmp (tkT s n) p c)) : gk_ci E (d + 8) jmo_readCompared [.ref 112] h K := by
  have h4 := tm.1
  unfold pCmp at k
  refine gk_ci_mk (x_mo_readCompared (s_mo_readSum (d := d) o tm wr st hl (OC_bi k (fun e H h' q' => zT rfl (H h' q')) (fun x ex H h' st' => zF (by decide) ?_))))
  obtain ⟨u1, u2, u3⟩ := bSum o (j := 0) (by omega) ex
  have r4 := RTok_4 st'.2.2.1.2.2
  have go : 60 ≤ tK s n x.1 → tK s n x.1 ≤ 62 → ∀ w, w = tK s n x.1 - 54 → gk_cv E (d + 7) jmo_reads [.ref 112] h' (fun h_6 => gk_ci E (d + 7) jmo_readSum [.ref 112] h_6 (fun r_8 h_7 => (¬ r_8 = (-1 : Int32) → (gk_cv E (d + 7) jmo_emits [.ref 112, .int (nI w), .int (0 : Int32)] h_7 (fun h_9 => gk_qi K (some (.int (0 : Int32))) h_9))) ∧ (r_8 = (-1 : Int32) → (gk_qi K (some (.int (-1 : Int32))) h_7)))) := by
    intro z1 z2 w ew
    rw [if_pos (show 60 ≤ (tkT s n).1 x.1 ∧ (tkT s n).1 x.1 ≤ 62 from ⟨z1, z2⟩)] at H
    have hx : x.1 < n := by have := tK_c s n x.1; omega
    have hnx := nxp_b (s := s) hx
    refine s_rc_reads (d := d + 3) tm wr st' (fun h1 st1 => s_mo_readSum (d := d) o tm wr st1 (by omega) (OC_bi H (fun e H h' q' => zT rfl (H h' q')) (fun y ey H2 h2 st2 => zF (by decide) ?_)))
    obtain ⟨v1, v2, v3⟩ := bSum o (j := 1) (by show (X x.2).length + 1 ≤ nxp s n x.1; omega) ey
    refine s_rc_emits (d := d + 6) st2 (by omega) (fun h3 st3 => H2 h3 ?_)
    have : X [(nI (tK s n x.1 - 54), (0 : Int32))] = [(nI (tK s n x.1 - 54), 0)] := X_one (by
      intro h
      have := (nI_eq (b := 5) (by omega) (by decide)).mp h
      omega)
    show RC h0 h3 s n y.1 (X (y.2 ++ [(nI (tK s n x.1 - 54), 0)]))
    rw [X_app, this, ← ew]
    exact st3
  refine s_mo_isSign (d := d + 6) (c := 60) st'.2.2.1 (by decide) (by decide) (fun q => zF (by decide) ?_) (fun q => zT rfl (s_mo_isSign (d := d + 6) (c := 61) st'.2.2.1 (by decide) (by decide) (fun q2 => zF (by decide) ?_) (fun q2 => zT rfl (s_mo_isSign (d := d + 6) (c := 62) st'.2.2.1 (by decide) (by decide) (fun q3 => zF (by decide) ?_) (fun q3 => zT rfl ?_)))))
  · have r := r4.1 (by omega) (by omega)
    exact zT (by rw [r.2, q]; rfl) (fe (go (by omega) (by omega) 6 (by omega)))
  · have r := r4.1 (by omega) (by omega)
    exact zF (by rw [r.2, q2]; decide) (zT (by rw [r.2, q2]; rfl) (fe (go (by omega) (by omega) 7 (by omega))))
  · have r := r4.1 (by omega) (by omega)
    exact zF (by rw [r.2, q3]; decide) (zF (by rw [r.2, q3]; decide) (fe (go (by omega) (by omega) 8 (by omega))))
  · rw [if_neg (show ¬ (60 ≤ (tkT s n).1 x.1 ∧ (tkT s n).1 x.1 ≤ 62) from fun y => by have y1 : 60 ≤ tK s n x.1 := y.1; have y2 : tK s n x.1 ≤ 62 := y.2; omega)] at H
    exact s_rc_errs (d := d + 6) (f := 1) st' (fun h' q' => H h' q')
end MCD
