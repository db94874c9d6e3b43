/-! the class reads: conditions, lines of the law -/
section PCN
variable {E : gk_E} {h0 : gk_H} {n N : Nat} {s : Nat → Nat}
theorem s_pa_comparison {d : Nat} {h : gk_H} {p : Nat} {K : Int32 → gk_H → Prop} (t4 : h.1 63 6 = nI (tK s n p)) (k1 : 60 ≤ tK s n p → tK s n p ≤ 62 → K (nI (tK s n p - 54)) h) (k0 : ¬ (60 ≤ tK s n p ∧ tK s n p ≤ 62) → K (-1) h) : gk_ci E (d + 1) jpa_comparison [.ref 63] h K := by
  have hb := tK_lt s n p
  refine gk_ci_mk (x_pa_comparison ?_)
  unfold w_pa_comparison
  rw [t4]
  refine pk_eq (tK s n p) 60 (fun z => ?_) (fun z => pk_eq (tK s n p) 61 (fun z => ?_) (fun z => pk_eq (tK s n p) 62 (fun z => ?_) (fun z => k0 (by omega))))
  · have := k1 (by omega) (by omega); rw [z] at this; exact this
  · have := k1 (by omega) (by omega); rw [z] at this; exact this
  · have := k1 (by omega) (by omega); rw [z] at this; exact this
theorem cmpC {d : Nat} {h : gk_H} {p : Nat} {c : gSg} {K : Int32 → gk_H → Prop} (o : okK (tkT s n) n) (h4 : n ≤ 400) (tk : TK h0 n s N) (st : CSt h0 h s n N p c) (hl : (X c).length ≤ p) (k : cK h0 s n N K (pCmp (tkT s n) p c)) : gk_ci E (d + 3) jpa_readSum [.ref 63] h (fun r_13 h_12 => (¬ r_13 = 0 → (gk_ci E (d + 3) jpa_comparison [.ref 63] h_12 (fun r_15 h_14 => ∀ x3_16 : Int32, x3_16 = r_15 → ((¬ x3_16 = (-1 : Int32) → (gk_cv E (d + 3) jpa_step [.ref 63] h_14 (fun h_17 => gk_ci E (d + 3) jpa_readSum [.ref 63] h_17 (fun r_19 h_18 => (¬ r_19 = 0 → (gk_cv E (d + 3) jla_add [.ref 65, .int x3_16, .int (0 : Int32)] h_18 (fun h_20 => ((1 : Int32) = 0 ∨ (1 : Int32) = 1) ∧ gk_qi K (some (.int (1 : Int32))) h_20))) ∧ (r_19 = 0 → (((0 : Int32) = 0 ∨ (0 : Int32) = 1) ∧ gk_qi K (some (.int (0 : Int32))) h_18)))))) ∧ (x3_16 = (-1 : Int32) → (gk_ci E (d + 3) jpa_refuse [.ref 63, .int (1 : Int32)] h_14 (fun r_22 h_21 => (r_22 = 0 ∨ r_22 = 1) ∧ gk_qi K (some (.int r_22)) h_21))))))) ∧ (r_13 = 0 → (((0 : Int32) = 0 ∨ (0 : Int32) = 1) ∧ gk_qi K (some (.int (0 : Int32))) h_12))) := by
  refine s_pa_readSum (d := d) o h4 tk st hl (OC_bi k (fun e H h' q' => zT rfl ⟨Or.inl rfl, H h' q'⟩) (fun x ex H h' st' => zF (by decide) ?_))
  obtain ⟨u1, u2, u3⟩ := bSum o (j := 0) (by omega) ex
  obtain ⟨t, t1, t2, t3, t4, t5⟩ := st'.2.1
  refine s_pa_comparison (d := d + 2) t4 (fun z1 z2 => fe (zF ?_ ?_)) (fun z => fe (zT rfl ?_))
  · exact nI_m1 (by omega)
  · rw [if_pos (show 60 ≤ (tkT s n).1 x.1 ∧ (tkT s n).1 x.1 ≤ 62 from ⟨z1, z2⟩)] at H
    have hx : x.1 < n := by have := tK_c s n x.1; omega
    have hnx := nxp_b (s := s) hx
    refine s_cs_step (d := d + 2) tk st' (fun h1 st1 => s_pa_readSum (d := d) o h4 tk st1 (by omega) (OC_bi H (fun e H h' q' => zT rfl ⟨Or.inl rfl, H h' q'⟩) (fun y ey H2 h2 st2 => zF (by decide) ?_)))
    obtain ⟨v1, v2, v3⟩ := bSum o (j := 1) (by show (X x.2).length + 1 ≤ nxp s n x.1; omega) ey
    have xl := X_len y.2
    exact s_la_add (d := d + 2) st2 (by omega) (fun h3 st3 => ⟨Or.inr rfl, H2 h3 st3⟩)
  · rw [if_neg (show ¬ (60 ≤ (tkT s n).1 x.1 ∧ (tkT s n).1 x.1 ≤ 62) from z)] at H
    exact s_cs_refuse (d := d + 2) (f := 1) tk st' (fun h' q' => ⟨Or.inl rfl, H h' q'⟩)
theorem g_pa_cnd {m d : Nat} {K : Int32 → gk_H → Prop} (o : okK (tkT s n) n) (h4 : n ≤ 400) (tk : TK h0 n s N) (hone : ∀ (K : Int32 → gk_H → Prop) (p : Nat) (c : gSg) (h : gk_H), CSt h0 h s n N p c → (X c).length ≤ p → cK h0 s n N K (pOne (tkT s n) m p c) → gk_ci E (d + 4) jpa_readOne [.ref 63, .int (nI (8 - m))] h K) : ∀ (f i w p : Nat) (c : gSg) (h : gk_H), i + f = 400 → (w = 0 ∨ w = 11) → (X c).length + wl w ≤ p → CSt h0 h s n N p c → cK h0 s n N K (pCnd (tkT s n) (pOne (tkT s n) m) f w p c) → g_pa_readCondition_14 E (d + 4) (gk_qi K) (nI (8 - m)) (wI w) (nI i) h := by
  intro f
  induction f with
  | zero =>
    intro i w p c h hf hw hl st k
    have xl := X_len c
    have hp := CTok_p tk st.2.1
    exact x_pa_readCondition_14 (pk_le 400 i (fun _ => s_pa_addWaiting (d := d + 2) (by omega) st (by omega) (fun h' st' => ⟨Or.inr rfl, k h' st'⟩)) (fun q => by omega))
  | succ f ih =>
    intro i w p c h hf hw hl st k
    have xl := X_len c
    have hp := CTok_p tk st.2.1
    have hb := tK_lt s n p
    obtain ⟨t, t1, t2, t3, t4, t5⟩ := st.2.1
    rw [pCnd] at k
    refine x_pa_readCondition_14 (pk_le 400 i (fun q => by omega) (fun _ => ?_))
    rw [t4, nI_1]
    refine pk_eq (tK s n p) 104 (fun z => zF (fun y => by have := (nI_eq (b := 105) (by omega) (by decide)).mp y; omega) (fe (zT rfl ?_))) (fun z => pk_ne (tK s n p) 105 (fun z2 => ?_) (fun z2 => zT (by rw [z2]; rfl) (fe (zF (by decide) ?_))))
    · have hpn : p < n := by have := tK_c s n p; omega
      have hnx := nxp_b (s := s) hpn
      rw [if_neg (show ¬ (tkT s n).1 p = 105 from fun y => by have : tK s n p = 105 := y; omega), if_pos (show (tkT s n).1 p = 104 from z)] at k
      refine s_pa_addWaiting (d := d + 2) (by omega) st (by omega) (fun h1 st1 => fe (s_cs_step (d := d + 3) tk st1 (fun h2 st2 => hone _ _ _ _ st2 ?_ (OC_bi k (fun e H h' q' => zT rfl ⟨Or.inl rfl, H h' q'⟩) (fun x ex H h' st' => zF (by decide) (yT rfl (fe ?_)))))))
      · rw [X_app, X_wt (by omega), List.length_append, wt_l]; omega
      · obtain ⟨v1, v2, v3⟩ := bOne o m _ _ 1 x hnx.2 (by rw [X_app, X_wt (by omega), List.length_append, wt_l]; show _ ≤ nxp s n p; omega) ex
        exact ih (i + 1) 11 x.1 x.2 h' (by omega) (Or.inr rfl) (by show (X x.2).length + 1 ≤ x.1; omega) st' H
    · rw [if_neg (show ¬ (tkT s n).1 p = 105 from z2), if_neg (show ¬ (tkT s n).1 p = 104 from z)] at k
      exact s_pa_addWaiting (d := d + 2) (by omega) st (by omega) (fun h' st' => ⟨Or.inr rfl, k h' st'⟩)
    · have hpn : p < n := by have := tK_c s n p; omega
      have hnx := nxp_b (s := s) hpn
      rw [if_pos (show (tkT s n).1 p = 105 from z2)] at k
      refine s_cs_step (d := d + 3) tk st (fun h2 st2 => hone _ _ _ _ st2 (by omega) (OC_bi k (fun e H h' q' => zT rfl ⟨Or.inl rfl, H h' q'⟩) (fun x ex H h' st' => zF (by decide) (yF (by decide) ?_))))
      obtain ⟨v1, v2, v3⟩ := bOne o m _ _ (wl w + 1) x hnx.2 (by show _ ≤ nxp s n p; omega) ex
      have xl2 := X_len x.2
      refine s_la_add (d := d + 3) st' (by omega) (fun h3 st3 => fe (ih (i + 1) w x.1 _ h3 (by omega) hw ?_ st3 H))
      rw [X_app, List.length_append]
      show (X x.2).length + 1 + wl w ≤ x.1
      omega
theorem s_pa_readCondition0 {m d : Nat} {h : gk_H} {p : Nat} {c : gSg} {K : Int32 → gk_H → Prop} (o : okK (tkT s n) n) (h4 : n ≤ 400) (tk : TK h0 n s N) (hone : ∀ (K : Int32 → gk_H → Prop) (p : Nat) (c : gSg) (h : gk_H), CSt h0 h s n N p c → (X c).length ≤ p → cK h0 s n N K (pOne (tkT s n) m p c) → gk_ci E (d + 4) jpa_readOne [.ref 63, .int (nI (8 - m))] h K) (st : CSt h0 h s n N p c) (hl : (X c).length ≤ p) (k : cK h0 s n N K (pAny (tkT s n) m p c)) : gk_ci E (d + 5) jpa_readCondition [.ref 63, .int (nI (8 - m))] h K := by
  refine gk_ci_mk (x_pa_readCondition (hone _ _ _ _ st hl (OC_bi k (fun e H h' q' => zT rfl ⟨Or.inl rfl, H h' q'⟩) (fun x ex H h' st' => zF (by decide) (fe (fe ?_))))))
  obtain ⟨v1, v2, v3⟩ := bOne o m _ _ 0 x (CTok_p tk st.2.1) (by omega) ex
  exact g_pa_cnd o h4 tk hone 400 0 0 x.1 x.2 h' (by decide) (Or.inl rfl) v1 st' H
theorem s_pa_readOne (o : okK (tkT s n) n) (h4 : n ≤ 400) (tk : TK h0 n s N) : ∀ (m : Nat), m ≤ 8 → ∀ (d : Nat) (K : Int32 → gk_H → Prop) (p : Nat) (c : gSg) (h : gk_H), CSt h0 h s n N p c → (X c).length ≤ p → cK h0 s n N K (pOne (tkT s n) m p c) → gk_ci E (d + 2 * m + 4) jpa_readOne [.ref 63, .int (nI (8 - m))] h K := by
  intro m
  induction m with
  | zero =>
    intro hm d K p c h st hl k
    have hb := tK_lt s n p
    obtain ⟨t, t1, t2, t3, t4, t5⟩ := st.2.1
    refine gk_ci_mk (x_pa_readOne ?_)
    unfold w_pa_readOne
    rw [t4]
    rw [pOne] at k
    have e8 : ¬ nI (8 - 0) < 8 := by decide
    refine pk_ne (tK s n p) 106 (fun z => fe (zT rfl (pk_ne (tK s n p) 40 (fun z2 => ?_) (fun z2 => yF e8 ?_)))) (fun z => fe (zF (by decide) (yF e8 ?_)))
    · rw [if_neg (show ¬ ((tkT s n).1 p = 106 ∨ (tkT s n).1 p = 40) from fun y => y.elim z z2)] at k
      exact cmpC (d := d) o h4 tk st hl k
    · rw [if_pos (show (tkT s n).1 p = 106 ∨ (tkT s n).1 p = 40 from Or.inr z2)] at k
      exact s_cs_refuse (d := d + 2) (f := 3) tk st (fun h' q' => ⟨Or.inl rfl, k h' q'⟩)
    · rw [if_pos (show (tkT s n).1 p = 106 ∨ (tkT s n).1 p = 40 from Or.inl z)] at k
      exact s_cs_refuse (d := d + 2) (f := 3) tk st (fun h' q' => ⟨Or.inl rfl, k h' q'⟩)
  | succ m ih =>
    intro hm d K p c h st hl k
    have hb := tK_lt s n p
    obtain ⟨t, t1, t2, t3, t4, t5⟩ := st.2.1
    have em : nI (8 - (m + 1)) + 1 = nI (8 - m) := by rw [nI_1]; congr 1; omega
    have ed : d + 2 * (m + 1) + 4 = (d + 2 * m + 5) + 1 := by omega
    rw [ed]
    refine gk_ci_mk (x_pa_readOne ?_)
    unfold w_pa_readOne
    rw [t4, em]
    rw [pOne] at k
    have e8 : nI (8 - (m + 1)) < 8 := nI_lt (b := 8) (by omega) (by decide)
    have hone : ∀ (K : Int32 → gk_H → Prop) (p : Nat) (c : gSg) (h : gk_H), CSt h0 h s n N p c → (X c).length ≤ p → cK h0 s n N K (pOne (tkT s n) m p c) → gk_ci E ((d + 2 * m) + 4) jpa_readOne [.ref 63, .int (nI (8 - m))] h K := fun K p c h st hl k => ih (by omega) d K p c h st hl k
    refine pk_ne (tK s n p) 106 (fun z => fe (zT rfl (pk_ne (tK s n p) 40 (fun z2 => ?_) (fun z2 => yT e8 ?_)))) (fun z => fe (zF (by decide) (yT e8 ?_)))
    · rw [if_neg (show ¬ (tkT s n).1 p = 106 from z), if_neg (show ¬ (tkT s n).1 p = 40 from z2)] at k
      exact cmpC (d := d + 2 * m + 2) o h4 tk st hl k
    · rw [if_neg (show ¬ (tkT s n).1 p = 106 from z), if_pos (show (tkT s n).1 p = 40 from z2)] at k
      have hpn : p < n := by have := tK_c s n p; omega
      have hnx := nxp_b (s := s) hpn
      refine s_cs_step (d := d + 2 * m + 4) tk st (fun h1 st1 => zT rfl (s_pa_readCondition0 (d := d + 2 * m) o h4 tk hone st1 (by omega) (OC_bi k (fun e H h' q' => yT rfl ⟨Or.inl rfl, H h' q'⟩) (fun x ex H h' st' => yF (by decide) ?_))))
      exact s_cs_take (d := d + 2 * m + 3) (w := 41) (by decide) tk st' (OC_bi H (fun e H h' q' => yT rfl ⟨Or.inl rfl, H h' q'⟩) (fun r er H h' st2 => yF (by decide) ⟨Or.inr rfl, H h' st2⟩))
    · rw [if_pos (show (tkT s n).1 p = 106 from z)] at k
      have hpn : p < n := by have := tK_c s n p; omega
      have hnx := nxp_b (s := s) hpn
      refine s_cs_step (d := d + 2 * m + 4) tk st (fun h1 st1 => zF (by decide) ?_)
      have := ih (by omega) (d + 1) (fun r_4 h_3 => (¬ r_4 = 0 → (gk_cv E (d + 2 * m + 5) jla_add [.ref 65, .int (9 : Int32), .int (0 : Int32)] h_3 (fun h_5 => ((1 : Int32) = 0 ∨ (1 : Int32) = 1) ∧ gk_qi K (some (.int (1 : Int32))) h_5))) ∧ (r_4 = 0 → (((0 : Int32) = 0 ∨ (0 : Int32) = 1) ∧ gk_qi K (some (.int (0 : Int32))) h_3))) (nxp s n p) c h1 st1 (by omega) (OC_bi k (fun e H h' q' => zT rfl ⟨Or.inl rfl, H h' q'⟩) (fun x ex H h' st' => zF (by decide) ?_))
      · rw [show d + 1 + 2 * m + 4 = d + 2 * m + 5 by omega] at this
        exact this
      · obtain ⟨v1, v2, v3⟩ := bOne o m _ _ 1 x hnx.2 (by show _ ≤ nxp s n p; omega) ex
        have xl2 := X_len x.2
        exact s_la_add (d := d + 2 * m + 4) st' (by omega) (fun h3 st3 => ⟨Or.inr rfl, H h3 st3⟩)
theorem s_pa_readCondition {d : Nat} {h : gk_H} {p : Nat} {c : gSg} {K : Int32 → gk_H → Prop} (o : okK (tkT s n) n) (h4 : n ≤ 400) (tk : TK h0 n s N) (st : CSt h0 h s n N p c) (hl : (X c).length ≤ p) (k : cK h0 s n N K (pAny (tkT s n) 8 p c)) : gk_ci E (d + 21) jpa_readCondition [.ref 63, .int (0 : Int32)] h K :=
  s_pa_readCondition0 (d := d + 16) o h4 tk (fun K p c h st hl k => s_pa_readOne o h4 tk 8 (by decide) d K p c h st hl k) st hl k
end PCN
/-! a line of the law -/
def CLn (h : gk_H) (L : List gLe) : Prop := ∀ l e, L[l]? = some e → h.2.1 66 l = nI e.1 ∧ h.2.1 67 l = nI e.2.1.length ∧ h.2.1 68 l = nI e.2.2.1.length ∧ h.2.1 69 l = nI e.2.2.2.length
def S_lw (k : Nat) : Prop := k = 63 ∨ (65 ≤ k ∧ k ≤ 71)
def CL (h0 h : gk_H) (s : Nat → Nat) (n N p : Nat) (a : gLw) : Prop := (fr S_lw h0 h ∧ h.1 63 4 = h0.1 63 4) ∧ CTok h s n N p ∧ CCo h a.2 ∧ h.1 65 0 = nI a.1.length ∧ CLn h a.1
def CLf (h0 h : gk_H) (e : Nat × Nat) : Prop := (fr S_lw h0 h ∧ h.1 63 4 = h0.1 63 4) ∧ CFt h e
theorem LD_lw {h h' : gk_H} (a : LD h h') : fr S_lw h h' ∧ h'.1 63 4 = h.1 63 4 := ⟨fr_mo a.1 (fun k q => by unfold S_lw; omega), a.2.1⟩
theorem lw_tr {h h' h'' : gk_H} (a : fr S_lw h h' ∧ h'.1 63 4 = h.1 63 4) (b : fr S_lw h' h'' ∧ h''.1 63 4 = h'.1 63 4) : fr S_lw h h'' ∧ h''.1 63 4 = h.1 63 4 := ⟨fr_tr a.1 b.1, b.2.trans a.2⟩
section PLW
variable {E : gk_E} {d : Nat} {h h0 : gk_H} {n N p : Nat} {s : Nat → Nat}
theorem TK_lw (tk : TK h0 n s N) (a : fr S_lw h0 h) : TK h n s N := TK_2 (a 60 (by unfold S_lw; omega)).2.1 (a 61 (by unfold S_lw; omega)).2.1 (a 62 (by unfold S_lw; omega)).2.1 tk
theorem s_pa_readLaw {K : Int32 → gk_H → Prop} {a : gLw} (o : okK (tkT s n) n) (h4 : n ≤ 400) (tk : TK h0 n s N) (st : CL h0 h s n N p a) (hL : a.1.length < 16) (hk : 100 ≤ tK s n p ∧ tK s n p ≤ 102) (hl : (X a.2).length ≤ p) (k : OC (lwL (tkT s n) p a) (fun e => ∀ h', CLf h0 h' e → K 0 h') (fun x => ∀ h', CL h0 h' s n N x.1 x.2 → K 1 h')) : gk_ci E (d + 22) jpa_readLaw [.ref 63] h K := by
  obtain ⟨L, c⟩ := a
  obtain ⟨f0, ⟨t, t1, t2, t3, t4, t5⟩, ⟨c1, c2⟩, l0, ln⟩ := st
  have c1 : h.1 65 1 = nI c.length := c1
  have hpn : p < n := by have := tK_c s n p; omega
  have hnx := nxp_b (s := s) hpn
  have vL : vp_in (nI L.length) 16 := vp_in_nI hL (by decide)
  have hL : L.length < 16 := hL
  refine gk_ci_mk (x_pa_readLaw ?_)
  unfold w_pa_readLaw
  rw [t4, show nI (tK s n p) - 100 = nI (tK s n p - 100) from pk_sub (b := 100) hk.1]
  refine gk_cv_mk (x_la_begin ?_)
  unfold w_la_begin
  rw [show h.1 65 0 = nI L.length from l0]
  refine pk_le 16 L.length (fun q => by omega) (fun _ => ⟨vL, ?_⟩)
  rw [nI_clamp (by omega)]
  refine fe ?_
  have e65 : (gk_ha h 66 L.length (nI (tK s n p - 100))).1 65 0 = nI L.length := l0
  have e651 : (gk_ha h 66 L.length (nI (tK s n p - 100))).1 65 1 = nI c.length := c1
  rw [e65, e651, nI_clamp (by omega)]
  refine ⟨vL, fe ?_⟩
  obtain ⟨h1, eh1⟩ : ∃ u, u = gk_ha (gk_ha h 66 L.length (nI (tK s n p - 100))) 67 L.length (nI c.length) := ⟨_, rfl⟩
  rw [← eh1]
  have f1 : fr S_lw h h1 ∧ h1.1 63 4 = h.1 63 4 := by rw [eh1]; exact ⟨fr_tr (fr_ha (by unfold S_lw; omega)) (fr_ha (by unfold S_lw; omega)), rfl⟩
  have tk1 : TK h1 n s N := TK_lw tk (fr_tr f0.1 f1.1)
  have st1 : CSt h1 h1 s n N p c := by
    refine ⟨⟨fr_rf, rfl, rfl⟩, ⟨t, t1, ?_, t3, ?_, by rw [eh1]; exact t5⟩, ?_, fun i x hx => ?_⟩
    · rw [eh1]; exact t2
    · rw [eh1]; exact t4
    · rw [eh1]; exact c1
    · rw [eh1, ha_o (by decide), ha_o (by decide), ha_o (by decide), ha_o (by decide)]; exact c2 i x hx
  have w66 : ∀ l, h1.2.1 66 l = if l = L.length then nI (tK s n p - 100) else h.2.1 66 l := fun l => by rw [eh1, ha_o (by decide), OW_set]
  have w67 : ∀ l, h1.2.1 67 l = if l = L.length then nI c.length else h.2.1 67 l := fun l => by rw [eh1, OW_set, ha_o (by decide)]
  have w68 : ∀ l, h1.2.1 68 l = h.2.1 68 l := fun l => by rw [eh1, ha_o (by decide), ha_o (by decide)]
  have w69 : ∀ l, h1.2.1 69 l = h.2.1 69 l := fun l => by rw [eh1, ha_o (by decide), ha_o (by decide)]
  have l1 : h1.1 65 0 = nI L.length := by rw [eh1]; exact l0
  refine s_cs_step (d := d + 20) tk1 st1 (fun h2 st2 => s_pa_readSum (d := d + 18) o h4 tk1 st2 (by have : (X c).length ≤ p := hl; omega) (OC_bi k (fun e H h' q' => zT rfl ⟨Or.inl rfl, H h' ⟨lw_tr (lw_tr f0 f1) (LD_lw q'.1), q'.2⟩⟩) (fun x ex H h3 st3 => zF (by decide) ?_)))
  obtain ⟨u1, u2, u3⟩ := bSum o (j := 0) (by have : (X c).length ≤ p := hl; show (X c).length + 0 ≤ nxp s n p; omega) ex
  have xl := X_len x.2
  have l3 : h3.1 65 0 = nI L.length := st3.1.2.2.trans l1
  refine gk_cv_mk (x_la_beginWhen ?_)
  unfold w_la_beginWhen
  rw [l3, st3.2.2.1]
  refine pk_le 16 L.length (fun q => by omega) (fun _ => ⟨vL, ?_⟩)
  rw [nI_clamp (by omega)]
  obtain ⟨h5, eh5⟩ : ∃ u, u = gk_ha h3 68 L.length (nI x.2.length) := ⟨_, rfl⟩
  rw [← eh5]
  have f5 : fr S_lw h3 h5 ∧ h5.1 63 4 = h3.1 63 4 := by rw [eh5]; exact ⟨fr_ha (by unfold S_lw; omega), rfl⟩
  have fA : fr S_lw h0 h5 ∧ h5.1 63 4 = h0.1 63 4 := lw_tr (lw_tr (lw_tr f0 f1) (LD_lw st3.1)) f5
  have tk5 : TK h5 n s N := TK_lw tk fA.1
  have st5 : CSt h5 h5 s n N x.1 x.2 := by
    obtain ⟨-, ⟨t', a1, a2, a3, a4, a5⟩, b1, b2⟩ := st3
    refine ⟨⟨fr_rf, rfl, rfl⟩, ⟨t', a1, ?_, a3, ?_, by rw [eh5]; exact a5⟩, ?_, fun i z hz => ?_⟩
    · rw [eh5]; exact a2
    · rw [eh5]; exact a4
    · rw [eh5]; exact b1
    · rw [eh5, ha_o (by decide), ha_o (by decide)]; exact b2 i z hz
  have l5 : h5.1 65 0 = nI L.length := by rw [eh5]; exact l3
  have g66 : ∀ l, h5.2.1 66 l = if l = L.length then nI (tK s n p - 100) else h.2.1 66 l := fun l => by rw [eh5, ha_o (by decide), (st3.1.1 66 (by omega)).2.1]; exact w66 l
  have g67 : ∀ l, h5.2.1 67 l = if l = L.length then nI c.length else h.2.1 67 l := fun l => by rw [eh5, ha_o (by decide), (st3.1.1 67 (by omega)).2.1]; exact w67 l
  have g68 : ∀ l, h5.2.1 68 l = if l = L.length then nI x.2.length else h.2.1 68 l := fun l => by rw [eh5, OW_set, (st3.1.1 68 (by omega)).2.1, w68 l]
  have g69 : ∀ l, h5.2.1 69 l = h.2.1 69 l := fun l => by rw [eh5, ha_o (by decide), (st3.1.1 69 (by omega)).2.1]; exact w69 l
  have fin : ∀ (y : Nat × gSg) (h6 : gk_H), CSt h5 h6 s n N y.1 y.2 → (X y.2).length ≤ y.1 → y.1 ≤ n → OC ((pT (tkT s n) 59 y.1).bind (fun q => (.ok (q, (L ++ [((tkT s n).1 p - 100, c, x.2, y.2)], y.2)) : pRe (Nat × gLw)))) (fun e => ∀ h', CLf h0 h' e → K 0 h') (fun x => ∀ h', CL h0 h' s n N x.1 x.2 → K 1 h') → gk_ci E (d + 21) jpa_take [.ref 63, .int (59 : Int32)] h6 (fun r_7 h_6 => (¬ r_7 = 0 → (gk_cv E (d + 21) jla_finish [.ref 65] h_6 (fun h_8 => ((1 : Int32) = 0 ∨ (1 : Int32) = 1) ∧ gk_qi K (some (.int (1 : Int32))) h_8))) ∧ (r_7 = 0 → (((0 : Int32) = 0 ∨ (0 : Int32) = 1) ∧ gk_qi K (some (.int (0 : Int32))) h_6))) := by
    intro y h6 st6 hy hyn k6
    have yl := X_len y.2
    refine s_cs_take (d := d + 19) (w := 59) (by decide) tk5 st6 (OC_bi k6 (fun e H h' q' => zT rfl ⟨Or.inl rfl, H h' ⟨lw_tr fA (LD_lw q'.1), q'.2⟩⟩) (fun q eq H h7 st7 => zF (by decide) ?_))
    have l7 : h7.1 65 0 = nI L.length := st7.1.2.2.trans l5
    obtain ⟨g7, ⟨t', a1, a2, a3, a4, a5⟩, b1, b2⟩ := st7
    refine gk_cv_mk (x_la_finish ?_)
    unfold w_la_finish
    rw [l7, b1]
    refine pk_le 16 L.length (fun q => by omega) (fun _ => ⟨vL, ?_⟩)
    rw [nI_clamp (by omega)]
    refine fe ?_
    have e7 : (gk_ha h7 69 L.length (nI y.2.length)).1 65 0 = nI L.length := l7
    rw [e7, nI_1]
    refine fe ⟨Or.inr rfl, H _ ⟨lw_tr (lw_tr fA (LD_lw g7)) ⟨fr_tr (fr_ha (by unfold S_lw; omega)) (fr_hf (by unfold S_lw; omega)), ?_⟩, ⟨t', a1, ?_, a3, ?_, CF0_hf (by decide) a5⟩, ⟨?_, fun i z hz => ?_⟩, ?_, fun l e he => ?_⟩⟩
    · rw [hf_f, if_neg (by decide)]; rfl
    · rw [hf_f, if_neg (by decide)]; exact a2
    · rw [hf_f, if_neg (by decide)]; exact a4
    · rw [hf_f, if_neg (by decide)]; exact b1
    · rw [hf_2, ha_o (by decide), ha_o (by decide)]; exact b2 i z hz
    · rw [hf_f, if_pos ⟨rfl, rfl⟩]
      show _ = nI (L ++ [_]).length
      rw [List.length_append]; rfl
    · rw [hf_2, ha_o (by decide), ha_o (by decide), ha_o (by decide), OW_set, (g7.1 66 (by omega)).2.1, (g7.1 67 (by omega)).2.1, (g7.1 68 (by omega)).2.1, (g7.1 69 (by omega)).2.1, g66, g67, g68, g69]
      have he : (L ++ [((tkT s n).1 p - 100, c, x.2, y.2)])[l]? = some e := he
      by_cases ql : l = L.length
      · rw [ql, List.getElem?_append_right (Nat.le_refl _), Nat.sub_self] at he
        cases he
        rw [if_pos ql, if_pos ql, if_pos ql, if_pos ql]
        exact ⟨rfl, rfl, rfl, rfl⟩
      · have hi : l < L.length := by
          obtain ⟨ll, -⟩ := List.getElem?_eq_some_iff.mp he
          rw [List.length_append] at ll
          have ll : l < L.length + 1 := ll
          omega
        rw [List.getElem?_append_left hi] at he
        rw [if_neg ql, if_neg ql, if_neg ql, if_neg ql]
        exact ln l e he
  obtain ⟨t', a1, a2, a3, a4, a5⟩ := st3.2.1
  have hb := tK_lt s n x.1
  refine pk_ne (tK s n x.1) 103 (fun z => ?_) (fun z => ?_) (hx := by rw [eh5]; exact a4)
  · rw [if_neg (show ¬ (tkT s n).1 x.1 = 103 from z)] at H
    exact fin x h5 st5 u1 u2 H
  · rw [if_pos (show (tkT s n).1 x.1 = 103 from z)] at H
    have hx : x.1 < n := by have := tK_c s n x.1; omega
    have hnx2 := nxp_b (s := s) hx
    refine s_cs_step (d := d + 20) tk5 st5 (fun h6 st6 => s_pa_readCondition (d := d) o h4 tk5 st6 (by omega) (OC_bi H (fun e H h' q' => zT rfl ⟨Or.inl rfl, H h' ⟨lw_tr fA (LD_lw q'.1), q'.2⟩⟩) (fun y ey H2 h7 st7 => zF (by decide) ?_)))
    obtain ⟨v1, v2, v3⟩ := bAny o (j := 0) hnx2.2 (by show (X x.2).length + 0 ≤ nxp s n x.1; omega) ey
    exact fin y h7 st7 v1 v2 H2
end PLW
