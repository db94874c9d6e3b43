/-! lines: the law, the reference; the loop over lines, the class -/
theorem OC_as {α β γ : Type} {R : pRe α} {f : α → pRe β} {g : β → pRe γ} {ke : Nat × Nat → Prop} {ko : γ → Prop} (h : OC ((R.bind f).bind g) ke ko) : OC (R.bind (fun x => (f x).bind g)) ke ko := by
  cases R with
  | error e => exact h
  | ok a => exact h
def begL (k : Nat) : Bool := decide (100 ≤ k) && decide (k ≤ 102)
theorem begL_1 {k : Nat} : begL k = true ↔ 100 ≤ k ∧ k ≤ 102 := by unfold begL; simp
def S_ml (k : Nat) : Prop := k = 112 ∨ (121 ≤ k ∧ k ≤ 127)
def MLd (h h' : gk_H) : Prop := fr S_ml h h' ∧ (∀ f, ¬ mF2 f → h'.1 112 f = h.1 112 f) ∧ (∀ i, i < 800 → h'.2.1 125 i = h.2.1 125 i ∧ h'.2.1 126 i = h.2.1 126 i) ∧ ∀ i, i < 32 → h'.2.1 121 i = h.2.1 121 i ∧ h'.2.1 122 i = h.2.1 122 i ∧ h'.2.1 123 i = h.2.1 123 i ∧ h'.2.1 124 i = h.2.1 124 i
theorem MLd_rf {h : gk_H} : MLd h h := ⟨fr_rf, fun _ _ => rfl, fun _ _ => ⟨rfl, rfl⟩, fun _ _ => ⟨rfl, rfl, rfl, rfl⟩⟩
theorem MLd_tr {h1 h2 h3 : gk_H} (a : MLd h1 h2) (b : MLd h2 h3) : MLd h1 h3 := ⟨fr_tr a.1 b.1, fun f q => (b.2.1 f q).trans (a.2.1 f q), fun i q => ⟨(b.2.2.1 i q).1.trans (a.2.2.1 i q).1, (b.2.2.1 i q).2.trans (a.2.2.1 i q).2⟩, fun i q => ⟨(b.2.2.2 i q).1.trans (a.2.2.2 i q).1, (b.2.2.2 i q).2.1.trans (a.2.2.2 i q).2.1, (b.2.2.2 i q).2.2.1.trans (a.2.2.2 i q).2.2.1, (b.2.2.2 i q).2.2.2.trans (a.2.2.2 i q).2.2.2⟩⟩
theorem MLd_of {h h' : gk_H} (a : MD2 h h') : MLd h h' := ⟨fr_mo a.1 (fun k q => by unfold S_ml; omega), a.2.1, a.2.2, fun i _ => ⟨by rw [(a.1 121 (by omega)).2.1], by rw [(a.1 122 (by omega)).2.1], by rw [(a.1 123 (by omega)).2.1], by rw [(a.1 124 (by omega)).2.1]⟩⟩
theorem MLd_ha {h : gk_H} {k i : Nat} {x : Int32} (hk : 121 ≤ k ∧ k ≤ 124) (hi : 32 ≤ i) : MLd h (gk_ha h k i x) := ⟨fr_ha (by unfold S_ml; omega), fun _ _ => rfl, fun j _ => ⟨by rw [ha_o (by omega)], by rw [ha_o (by omega)]⟩, fun j hj => ⟨by rw [ha_a, if_neg (by omega)], by rw [ha_a, if_neg (by omega)], by rw [ha_a, if_neg (by omega)], by rw [ha_a, if_neg (by omega)]⟩⟩
def MLn (h : gk_H) (L : List gLe) : Prop := ∀ l e, L[l]? = some e → h.2.1 121 (32 + l) = nI e.1 ∧ h.2.1 122 (32 + l) = nI (X e.2.1).length ∧ h.2.1 123 (32 + l) = nI (X e.2.2.1).length ∧ h.2.1 124 (32 + l) = nI (X e.2.2.2).length
def ML (h0 h : gk_H) (s : Nat → Nat) (n p : Nat) (a : gLw) : Prop := p ≤ n ∧ MLd h0 h ∧ RTk h n s p ∧ MCo h (X a.2) ∧ h.1 112 25 = 0 ∧ MLn h a.1
def MLf (h0 h : gk_H) (e : Nat × Nat) : Prop := MLd h0 h ∧ h.1 112 28 = nI e.1 ∧ h.1 112 29 = nI e.2
theorem RC_ha {h h0 : gk_H} {n p k i : Nat} {s : Nat → Nat} {C : gSg} {x : Int32} (hk : ¬ k = 125 ∧ ¬ k = 126) (st : RC h0 h s n p C) : RC (gk_ha h k i x) (gk_ha h k i x) s n p C := ⟨st.1, MD_rf, st.2.2.1, st.2.2.2.1, fun j y hy => by rw [ha_o (by omega), ha_o (by omega)]; exact st.2.2.2.2 j y hy⟩
theorem TMs_ML {h h' : gk_H} {n : Nat} {s : Nat → Nat} (a : MLd h h') (t : TMs h n s) : TMs h' n s := ⟨t.1, (a.2.1 10 (by unfold mF2 mF; omega)).trans t.2.1, by rw [(a.1 118 (by unfold S_ml; omega)).2.1]; exact t.2.2⟩
theorem wr_ML {h h' : gk_H} (a : MLd h h') (t : wordsR h) : wordsR h' := by unfold wordsR; rw [(a.1 119 (by unfold S_ml; omega)).2.1]; exact t
section MLW
variable {E : gk_E} {d : Nat} {h h0 : gk_H} {n p : Nat} {s : Nat → Nat} {K : Int32 → gk_H → Prop}
theorem s_mo_isLineWord (rt : RTk h n s p) (k1 : begL (tK s n p) = true → K 1 h) (k0 : ¬ begL (tK s n p) = true → K 0 h) : gk_ci E (d + 2) jmo_isLineWord [.ref 112] h K := by
  have r2 := RTok_2 rt.2.2
  refine gk_ci_mk (x_mo_isLineWord ?_)
  by_cases q : 100 ≤ tK s n p
  · obtain ⟨e1, e0, e2⟩ := r2.1 q
    refine zT e1 ?_
    rw [e2]
    by_cases q2 : tK s n p ≤ 102
    · exact s_in1 ⟨nI_pos' (by omega), nI_le (b := 2) (by omega) (by decide)⟩ (yF (by decide) ⟨Or.inr rfl, k1 (begL_1.mpr ⟨q, q2⟩)⟩)
    · exact s_in0 (fun y => by have := (nI_leI (b := 2) (by omega) (by decide)).mp y.2; omega) (yT rfl ⟨Or.inl rfl, k0 (fun y => by have := begL_1.mp y; omega)⟩)
  · exact zF (r2.2 (by omega)) ⟨Or.inl rfl, k0 (fun y => by have := begL_1.mp y; omega)⟩
theorem g_mo_law (o : okK (tkT s n) n) (tm : TMs h0 n s) (wr : wordsR h0) : ∀ (f k p : Nat) (a : gLw) (h : gk_H), k + f = 17 → k ≤ 16 → a.1.length = k → (X a.2).length ≤ p → ML h0 h s n p a → OC (pTx (tkT s n) begL (lwL (tkT s n)) f k p a) (fun e => ∀ h', MLf h0 h' e → K (-1) h') (fun x => ∀ h' q, ML h0 h' s n q x.2 → K (nI x.1) h') → g_mo_readLaw_2 E (d + 9) (gk_qi K) (nI k) h := by
  have h4 := tm.1
  intro f
  induction f with
  | zero => intro k p a h hf hk; omega
  | succ f ih =>
    intro k p a h hf hk hL hl st kk
    obtain ⟨L, c⟩ := a
    obtain ⟨hp, md, rt, mc, e25, ln⟩ := id st
    have hL : L.length = k := hL
    have hl : (X c).length ≤ p := hl
    have mc : MCo h (X c) := mc
    have st0 : RC h h s n p (X c) := ⟨hp, MD_rf, rt, mc⟩
    have r0 := RTok_0 rt.2.2
    have r2 := RTok_2 rt.2.2
    rw [pTx] at kk
    refine x_mo_readLaw_2 (s_mo_isLineWord (d := d + 7) rt (fun b => yF (by decide) ?_) (fun b => yT rfl ?_))
    · have bb := begL_1.mp b
      rw [if_neg (show ¬ (tkT s n).1 p = 0 from fun y => by have : tK s n p = 0 := y; omega), if_pos (show begL ((tkT s n).1 p) = true from b)] at kk
      have hpn : p < n := by have := tK_c s n p; omega
      have hnx := nxp_b (s := s) hpn
      obtain ⟨e1, e0, e2⟩ := r2.1 (by omega)
      have ei : (32 : Int32) + nI k = nI (32 + k) := nI_add 32 k
      rw [ei, nI_1]
      refine pk_ne k 16 (fun q => fe ?_) (fun q => ?_)
      · rw [if_pos (show k < 16 by omega)] at kk
        have vk : vp_in (nI (32 + k)) 48 := vp_in_nI (by omega) (by decide)
        refine ⟨vk, ?_⟩
        rw [nI_clamp (by omega), e2]
        refine fe ?_
        obtain ⟨h7, eh7⟩ : ∃ u, u = gk_ha h 121 (32 + k) (nI (tK s n p - 100)) := ⟨_, rfl⟩
        rw [← eh7]
        have m7 : MLd h0 h7 := by rw [eh7]; exact MLd_tr md (MLd_ha (by omega) (by omega))
        have s7 : RC h7 h7 s n p (X c) := by rw [eh7]; exact RC_ha (by omega) st0
        refine s_rc_reads (d := d + 5) (TMs_ML m7 tm) (wr_ML m7 wr) s7 (fun h8 s8 => ⟨vk, ?_⟩)
        rw [s8.2.2.2.1]
        refine fe ?_
        obtain ⟨h9, eh9⟩ : ∃ u, u = gk_ha h8 122 (32 + k) (nI (X c).length) := ⟨_, rfl⟩
        rw [← eh9]
        have m8 : MLd h0 h8 := MLd_tr m7 (MLd_of (MD2_of s8.2.1))
        have m9 : MLd h0 h9 := by rw [eh9]; exact MLd_tr m8 (MLd_ha (by omega) (by omega))
        have s9 : RC h9 h9 s n (nxp s n p) (X c) := by rw [eh9]; exact RC_ha (by omega) s8
        have kk := OC_as kk
        refine s_mo_readSum (d := d + 2) o (TMs_ML m9 tm) (wr_ML m9 wr) s9 (by omega) (OC_bi kk (fun e H h' q' => zT rfl (H h' ⟨MLd_tr m9 (MLd_of (MD2_of q'.1)), q'.2⟩)) (fun x ex H h10 s10 => zF (by decide) ⟨vk, ?_⟩))
        obtain ⟨u1, u2, u3⟩ := bSum o (j := 0) (by show (X c).length + 0 ≤ nxp s n p; omega) ex
        rw [s10.2.2.2.1]
        refine fe ?_
        obtain ⟨h12, eh12⟩ : ∃ u, u = gk_ha h10 123 (32 + k) (nI (X x.2).length) := ⟨_, rfl⟩
        rw [← eh12]
        have m12 : MLd h0 h12 := by rw [eh12]; exact MLd_tr (MLd_tr m9 (MLd_of (MD2_of s10.2.1))) (MLd_ha (by omega) (by omega))
        have s12 : RC h12 h12 s n x.1 (X x.2) := by rw [eh12]; exact RC_ha (by omega) s10
        have e25' : h12.1 112 25 = 0 := by
          rw [eh12, ha_1, s10.2.1.2.1 25 (by unfold mF; omega), eh9, ha_1, s8.2.1.2.1 25 (by unfold mF; omega), eh7]; exact e25
        have g121 : ∀ i, h12.2.1 121 i = if i = 32 + k then nI (tK s n p - 100) else h.2.1 121 i := fun i => by
          rw [eh12, ha_o (by decide), (s10.2.1.1 121 (by omega)).2.1, eh9, ha_o (by decide), (s8.2.1.1 121 (by omega)).2.1, eh7, OW_set]
        have g122 : ∀ i, h12.2.1 122 i = if i = 32 + k then nI (X c).length else h.2.1 122 i := fun i => by
          rw [eh12, ha_o (by decide), (s10.2.1.1 122 (by omega)).2.1, eh9, OW_set, (s8.2.1.1 122 (by omega)).2.1, eh7, ha_o (by decide)]
        have g123 : ∀ i, h12.2.1 123 i = if i = 32 + k then nI (X x.2).length else h.2.1 123 i := fun i => by
          rw [eh12, OW_set, (s10.2.1.1 123 (by omega)).2.1, eh9, ha_o (by decide), (s8.2.1.1 123 (by omega)).2.1, eh7, ha_o (by decide)]
        have g124 : ∀ i, h12.2.1 124 i = h.2.1 124 i := fun i => by
          rw [eh12, ha_o (by decide), (s10.2.1.1 124 (by omega)).2.1, eh9, ha_o (by decide), (s8.2.1.1 124 (by omega)).2.1, eh7, ha_o (by decide)]
        have fin : ∀ (y : Nat × gSg) (h6 : gk_H), y.1 ≤ n → MD2 h12 h6 → RTk h6 n s y.1 → MCo h6 (X y.2) → h6.1 112 25 = 0 → (X y.2).length ≤ y.1 → OC ((pT (tkT s n) 59 y.1).bind (fun q => pTx (tkT s n) begL (lwL (tkT s n)) f (k + 1) q (L ++ [((tkT s n).1 p - 100, c, x.2, y.2)], y.2))) (fun e => ∀ h', MLf h0 h' e → K (-1) h') (fun x => ∀ h' q, ML h0 h' s n q x.2 → K (nI x.1) h') → ∀ h_15 : gk_H, h_15 = gk_ha h6 124 (32 + k) (h6.1 112 24) → (gk_ci E (d + 9) jmo_isSign [.ref 112, .int (59 : Int32)] h_15 (fun r_17 h_16 => (¬ r_17 = 0 → (gk_cv E (d + 9) jmo_reads [.ref 112] h_16 (fun h_18 => ∀ x1_19 : Int32, x1_19 = nI (k + 1) → (g_mo_readLaw_2 E (d + 9) (gk_qi K) x1_19 h_18)))) ∧ (r_17 = 0 → (gk_ci E (d + 9) jmo_errs [.ref 112, .int (1 : Int32)] h_16 (fun r_21 h_20 => gk_qi K (some (.int r_21)) h_20))))) := by
          intro y h6 hy m6 rt6 mc6 a25 hly k6
          rw [mc6.1]
          refine fe ?_
          obtain ⟨h15, eh15⟩ : ∃ u, u = gk_ha h6 124 (32 + k) (nI (X y.2).length) := ⟨_, rfl⟩
          rw [← eh15]
          have m15 : MLd h0 h15 := by rw [eh15]; exact MLd_tr (MLd_tr m12 (MLd_of m6)) (MLd_ha (by omega) (by omega))
          have s15 : RC h15 h15 s n y.1 (X y.2) := by rw [eh15]; exact RC_ha (h0 := h6) (by omega) ⟨hy, MD_rf, rt6, mc6⟩
          unfold pT at k6
          refine s_mo_isSign (d := d + 8) (c := 59) s15.2.2.1 (by decide) (by decide) (fun z => zF (by decide) ?_) (fun z => zT rfl ?_)
          · rw [if_pos (show (tkT s n).1 y.1 = 59 from z)] at k6
            have hyn : y.1 < n := by have := tK_c s n y.1; omega
            have hny := nxp_b (s := s) hyn
            refine s_rc_reads (d := d + 5) (TMs_ML m15 tm) (wr_ML m15 wr) s15 (fun h18 s18 => fe (ih (k + 1) (nxp s n y.1) _ h18 (by omega) (by omega) ?_ ?_ ⟨s18.1, MLd_tr m15 (MLd_of (MD2_of s18.2.1)), s18.2.2.1, s18.2.2.2, ?_, fun l e he => ?_⟩ k6))
            · show (L ++ [_]).length = k + 1
              rw [List.length_append, hL]; rfl
            · show (X y.2).length ≤ nxp s n y.1
              omega
            · rw [s18.2.1.2.1 25 (by unfold mF; omega), eh15]; exact a25
            · have he : (L ++ [((tkT s n).1 p - 100, c, x.2, y.2)])[l]? = some e := he
              rw [(s18.2.1.1 121 (by omega)).2.1, (s18.2.1.1 122 (by omega)).2.1, (s18.2.1.1 123 (by omega)).2.1, (s18.2.1.1 124 (by omega)).2.1, eh15, ha_o (by decide), ha_o (by decide), ha_o (by decide), OW_set, (m6.1 121 (by omega)).2.1, (m6.1 122 (by omega)).2.1, (m6.1 123 (by omega)).2.1, (m6.1 124 (by omega)).2.1, g121, g122, g123, g124]
              by_cases ql : l = L.length
              · rw [ql, List.getElem?_append_right (Nat.le_refl _), Nat.sub_self] at he
                cases he
                have z1 : 32 + l = 32 + k := by omega
                rw [if_pos z1, if_pos z1, if_pos z1, if_pos z1]
                exact ⟨rfl, rfl, rfl, rfl⟩
              · have hi : l < L.length := by
                  obtain ⟨ll, -⟩ := List.getElem?_eq_some_iff.mp he
                  rw [List.length_append] at ll
                  have ll : l < L.length + 1 := ll
                  omega
                rw [List.getElem?_append_left hi] at he
                have z1 : ¬ 32 + l = 32 + k := by omega
                rw [if_neg z1, if_neg z1, if_neg z1, if_neg z1]
                exact ln l e he
          · rw [if_neg (show ¬ (tkT s n).1 y.1 = 59 from z)] at k6
            exact s_rc_errs (d := d + 8) (f := 1) s15 (fun h' q' => k6 h' ⟨MLd_tr m15 (MLd_of (MD2_of q'.1)), q'.2⟩)
        have H := OC_as H
        refine s_mo_isWord (d := d + 8) (w := 3) s12.2.2.1 (by decide) (fun z => yF (by decide) ?_) (fun z => yT rfl ⟨vk, ?_⟩)
        · rw [if_pos (show (tkT s n).1 x.1 = 103 from z)] at H
          have hxn : x.1 < n := by have := tK_c s n x.1; omega
          have hnx2 := nxp_b (s := s) hxn
          refine s_rc_reads (d := d + 5) (TMs_ML m12 tm) (wr_ML m12 wr) s12 (fun h22 s22 => ?_)
          refine s_mo_readAny (d := d) (h0 := h12) o (TMs_ML m12 tm) (wr_ML m12 wr) (by omega) s22.1 (MD2_of s22.2.1) s22.2.2.1 s22.2.2.2 (by rw [s22.2.1.2.1 25 (by unfold mF; omega)]; exact e25') (OC_bi H (fun e H h' q' => zT rfl (H h' ⟨MLd_tr m12 (MLd_of q'.1), q'.2⟩)) (fun y ey H2 h23 s23 => zF (by decide) ⟨vk, ?_⟩))
          obtain ⟨v1, v2, v3⟩ := bAny o (j := 0) hnx2.2 (by show (X x.2).length + 0 ≤ nxp s n x.1; omega) ey
          exact fin y h23 s23.1 s23.2.1 s23.2.2.1 s23.2.2.2.1 s23.2.2.2.2.1 (by omega) (OC_as H2)
        · rw [if_neg (show ¬ (tkT s n).1 x.1 = 103 from z)] at H
          exact fin x h12 u2 MD2_rf s12.2.2.1 s12.2.2.2 e25' (by omega) (OC_as H)
      · rw [if_neg (show ¬ k < 16 by omega)] at kk
        exact s_rc_errs (d := d + 8) (f := 3) st0 (fun h' q' => kk h' ⟨MLd_tr md (MLd_of (MD2_of q'.1)), q'.2⟩)
    · by_cases z : tK s n p = 0
      · rw [if_pos (show (tkT s n).1 p = 0 from z)] at kk
        exact zT (r0.1 z) (kk h p st)
      · rw [if_neg (show ¬ (tkT s n).1 p = 0 from z), if_neg (show ¬ begL ((tkT s n).1 p) = true from b)] at kk
        exact zF (r0.2 z) (s_rc_errs (d := d + 8) (f := 1) st0 (fun h' q' => kk h' ⟨MLd_tr md (MLd_of (MD2_of q'.1)), q'.2⟩))
end MLW
/-! the class: lines -/
def brP (E : gk_E) (D : Nat) (y1 : Int32) (h : gk_H) (G : Int32 → gk_H → Prop) : Prop := (¬ y1 = 0 → ((¬ y1 = (1 : Int32) → ((¬ y1 = (2 : Int32) → gk_ci E D jpa_readVoucher [.ref 63] h G) ∧ (y1 = (2 : Int32) → gk_ci E D jpa_readEntry [.ref 63] h G))) ∧ (y1 = (1 : Int32) → gk_ci E D jpa_readPassage [.ref 63] h G))) ∧ (y1 = 0 → gk_ci E D jpa_readLaw [.ref 63] h G)
theorem g_pa_loop {E : gk_E} {D : Nat} {n : Nat} {s : Nat → Nat} {σ : Type} {y1 : Int32} {beg : Nat → Bool} {line : Nat → σ → pRe (Nat × σ)} {K : Int32 → gk_H → Prop} (St : Nat → σ → Nat → gk_H → Prop) (Fe : Nat × Nat → gk_H → Prop) (hkind : ∀ p a k h, St p a k h → h.1 63 6 = nI (tK s n p)) (hbeg : ∀ p a k h (G : Int32 → gk_H → Prop), St p a k h → (beg (tK s n p) = true → G 1 h) → (¬ beg (tK s n p) = true → G 0 h) → gk_ci E D jpa_canBegin [.ref 63, .int y1] h G) (hcnt : ∀ p a k h (G : Int32 → gk_H → Prop), St p a k h → G (nI k) h → gk_ci E D jtx_count [.ref 64, .int y1] h G) (href : ∀ f p a k h (G : Int32 → gk_H → Prop), St p a k h → (∀ h', Fe (f, p) h' → G 0 h') → gk_ci E D jpa_refuse [.ref 63, .int (nI f)] h G) (hline : ∀ p a k h (G : Int32 → gk_H → Prop), St p a k h → k < 16 → beg (tK s n p) = true → OC (line p a) (fun e => ∀ h', Fe e h' → G 0 h') (fun x => ∀ h', St x.1 x.2 (k + 1) h' → G 1 h') → brP E D y1 h G) : ∀ (f k p : Nat) (a : σ) (h : gk_H), k + f = 17 → St p a k h → OC (pTx (tkT s n) beg line f k p a) (fun e => ∀ h', Fe e h' → K 0 h') (fun x => ∀ h' q, St q x.2 x.1 h' → K 1 h') → g_pa_parse_64 E D (gk_qi K) y1 1 (nI k) h := by
  have stop : ∀ (k : Nat) (h : gk_H), k < 100 → K 0 h → g_pa_parse_64 E D (gk_qi K) y1 0 (nI k) h := fun k h hk kk => x_pa_parse_64 (pk_lt 16 k (fun _ => ⟨Or.inl rfl, kk⟩) (fun _ => yT rfl ⟨Or.inl rfl, kk⟩))
  intro f
  induction f with
  | zero =>
    intro k p a h hf st kk
    exact x_pa_parse_64 (pk_lt 16 k (fun _ => ⟨Or.inr rfl, kk h p st⟩) (fun q => by omega))
  | succ f ih =>
    intro k p a h hf st kk
    have hb := tK_lt s n p
    rw [pTx] at kk
    refine x_pa_parse_64 (pk_lt 16 k (fun q => by omega) (fun _ => yF (by decide) ?_))
    rw [hkind p a k h st, nI_1]
    refine pk_eq (tK s n p) 0 (fun z => ⟨Or.inr rfl, ?_⟩) (fun z => ?_)
    · rw [if_pos (show (tkT s n).1 p = 0 from z)] at kk
      exact kk h p st
    · rw [if_neg (show ¬ (tkT s n).1 p = 0 from z)] at kk
      refine hbeg p a k h _ st (fun b => zF (by decide) (hcnt p a k h _ st ?_)) (fun b => zT rfl ?_)
      · rw [if_pos (show beg ((tkT s n).1 p) = true from b)] at kk
        refine pk_lt k 16 (fun q => ?_) (fun q => ?_)
        · rw [if_pos q] at kk
          exact hline p a k h (fun r h1 => ∀ x3 : Int32, x3 = r → ∀ x4 : Int32, x4 = nI (k + 1) → g_pa_parse_64 E D (gk_qi K) y1 x3 x4 h1) st q b (OC_bi kk (fun e H h' q' => fe (fe (stop (k + 1) h' (by omega) (H h' q')))) (fun x ex H h' st' => fe (fe (ih (k + 1) x.1 x.2 h' (by omega) st' H))))
        · rw [if_neg (by omega)] at kk
          exact href 3 p a k h _ st (fun h' q' => fe (fe (stop (k + 1) h' (by omega) (kk h' q'))))
      · rw [if_neg (show ¬ beg ((tkT s n).1 p) = true from b)] at kk
        exact href 1 p a k h _ st (fun h' q' => fe (fe (stop (k + 1) h' (by omega) (kk h' q'))))
theorem g_pa_law {E : gk_E} {d : Nat} {h0 : gk_H} {n N : Nat} {s : Nat → Nat} {K : Int32 → gk_H → Prop} (o : okK (tkT s n) n) (h4 : n ≤ 400) (tk : TK h0 n s N) {p : Nat} {h : gk_H} (st : CL h0 h s n N p ([], [])) (k : OC (pTx (tkT s n) begL (lwL (tkT s n)) 17 0 p ([], [])) (fun e => ∀ h', CLf h0 h' e → K 0 h') (fun x => ∀ h' q, CL h0 h' s n N q x.2 → x.2.1.length = x.1 → (X x.2.2).length ≤ 400 → K 1 h')) : g_pa_parse_64 E (d + 22) (gk_qi K) 0 1 0 h := by
  refine g_pa_loop (s := s) (n := n) (y1 := 0) (beg := begL) (line := lwL (tkT s n)) (fun p a k h => CL h0 h s n N p a ∧ a.1.length = k ∧ (X a.2).length ≤ p ∧ p ≤ n) (fun e h => CLf h0 h e) ?_ ?_ ?_ ?_ ?_ 17 0 p ([], []) h rfl ⟨st, rfl, Nat.zero_le _, CTok_p tk st.2.1⟩ (OC_mo k (fun e H => H) (fun x _ H h' q st' => H h' q st'.1 st'.2.1 (by have := st'.2.2; omega)))
  · intro p a k h st
    obtain ⟨t, t1, t2, t3, t4, t5⟩ := st.1.2.1
    exact t4
  · intro p a k h G st g1 g0
    obtain ⟨t, t1, t2, t3, t4, t5⟩ := st.1.2.1
    have hb := tK_lt s n p
    refine gk_ci_mk (x_pa_canBegin (yT rfl ?_))
    rw [t4]
    exact pk_lt (tK s n p) 100 (fun z => ⟨Or.inl rfl, g0 (fun y => by have := begL_1.mp y; omega)⟩) (fun z => pk_lt 102 (tK s n p) (fun z2 => ⟨Or.inl rfl, g0 (fun y => by have := begL_1.mp y; omega)⟩) (fun z2 => ⟨Or.inr rfl, g1 (begL_1.mpr ⟨z, z2⟩)⟩))
  · intro p a k h G st g
    refine gk_ci_mk (x_tx_count_64 (zT rfl ?_))
    rw [st.1.2.2.2.1, st.2.1]
    exact g
  · intro f p a k h G st g
    refine s_pa_refuse (d := d + 21) (h0 := h) (n := n) (s := s) (N := N) (p := p) (TK_lw tk st.1.1.1) ⟨PD_rf, st.1.2.1⟩ (fun h' q' => g h' ⟨lw_tr st.1.1 ?_, q'.2⟩)
    exact ⟨fun k hk => ⟨funext fun j => q'.1.2 k j (fun z => hk (Or.inl z.1)), by rw [q'.1.1], by rw [q'.1.1]⟩, q'.1.2 63 4 (by omega)⟩
  · intro p a k h G st hk b kk
    refine zT rfl (s_pa_readLaw (d := d) o h4 tk st.1 (by rw [st.2.1]; exact hk) (begL_1.mp b) st.2.2.1 (OC_mo kk (fun e H => H) (fun x ex H h' st' => H h' ⟨st', ?_, ?_, CTok_p tk st'.2.1⟩)))
    · obtain ⟨a1, b1, e1, -⟩ := eLine o ex
      rw [e1]
      show (a.1 ++ [_]).length = k + 1
      rw [List.length_append, st.2.1]; rfl
    · have hpn : p < n := by have := tK_c s n p; have := begL_1.mp b; omega
      exact (bLine o hpn st.2.2.1 ex).1
