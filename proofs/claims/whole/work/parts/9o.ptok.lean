/-! the class reads: tokens, codes -/
noncomputable def tkT (s : Nat → Nat) (n : Nat) : gTk := (tK s n, tkV s n, nxp s n)
theorem isSg_r {c : Nat} (h : isSg c = true) : 39 < c ∧ c < 64 := by
  unfold isSg at h
  simp at h
  omega
theorem tK_c (s : Nat → Nat) (n p : Nat) : (tK s n p = 0 ∧ n ≤ p) ∨ (p < n ∧ (tK s n p = 1 ∨ tK s n p = 2 ∨ (39 < tK s n p ∧ tK s n p < 64) ∨ (100 ≤ tK s n p ∧ tK s n p < 125))) := by
  unfold tK
  split
  · rename_i hp
    refine Or.inr ⟨hp, ?_⟩
    unfold tkK
    split
    · unfold tkW
      split
      · rename_i h
        have := h.choose_spec.1
        omega
      · omega
    · split
      · split <;> omega
      · split
        · rename_i q
          have := isSg_r q
          omega
        · omega
  · rename_i hp
    exact Or.inl ⟨rfl, by omega⟩
theorem tK_lt (s : Nat → Nat) (n p : Nat) : tK s n p < 125 := by
  have := tK_c s n p
  omega
def PD (h h' : gk_H) : Prop := h'.2 = h.2 ∧ ∀ k s, ¬ (k = 63 ∧ ¬ s = 4) → h'.1 k s = h.1 k s
theorem PD_rf {h : gk_H} : PD h h := ⟨rfl, fun _ _ _ => rfl⟩
theorem PD_hf {h h' : gk_H} {f : Nat} {x : Int32} (a : PD h h') (h1 : ¬ f = 4) : PD h (gk_hf h' 63 f x) := ⟨a.1, fun k s q => by
  rw [hf_f, if_neg (fun z => q ⟨z.1, by omega⟩)]; exact a.2 k s q⟩
def CF0 (h : gk_H) : Prop := h.1 63 2 = 0 ∧ h.1 63 3 = -1
theorem CF0_hf {h : gk_H} {k f : Nat} {x : Int32} (hk : ¬ (k = 63 ∧ (f = 2 ∨ f = 3))) (c : CF0 h) : CF0 (gk_hf h k f x) := by
  unfold CF0 at *
  rw [hf_f, if_neg (by omega), hf_f, if_neg (by omega)]
  exact c
def CTok (h : gk_H) (s : Nat → Nat) (n N p : Nat) : Prop := ∃ t, t ≤ N ∧ h.1 63 5 = nI t ∧ pos s n t = p ∧ h.1 63 6 = nI (tK s n p) ∧ CF0 h
def CFt (h : gk_H) (e : Nat × Nat) : Prop := h.1 63 2 = nI e.1 ∧ h.1 63 3 = nI e.2
def CQ (h0 h : gk_H) (s : Nat → Nat) (n N p : Nat) : Prop := PD h0 h ∧ CTok h s n N p
def CQf (h0 h : gk_H) (e : Nat × Nat) : Prop := PD h0 h ∧ CFt h e
theorem TK_2 {h h' : gk_H} {n N : Nat} {s : Nat → Nat} (e0 : h'.2.1 60 = h.2.1 60) (e1 : h'.2.1 61 = h.2.1 61) (e2 : h'.2.1 62 = h.2.1 62) (t : TK h n s N) : TK h' n s N := by
  unfold TK tkA at *
  rw [e0, e1, e2]; exact t
section PTK
variable {E : gk_E} {d : Nat} {h h0 : gk_H} {n N p : Nat} {s : Nat → Nat}
theorem CTok_p (tk : TK h0 n s N) (c : CTok h s n N p) : p ≤ n := by
  obtain ⟨t, t1, t2, t3, t4, t5⟩ := c
  rw [← t3]; exact pos_le t
theorem s_pa_step {K : gk_H → Prop} (tk : TK h0 n s N) (q : CQ h0 h s n N p) (k : ∀ h', CQ h0 h' s n N (nxp s n p) → K h') : gk_cv E (d + 1) jpa_step [.ref 63] h K := by
  obtain ⟨pd, t, t1, t2, t3, t4, t5⟩ := q
  have hb := tK_lt s n p
  have h4 := tk.1
  refine gk_cv_mk (x_pa_step ?_)
  unfold w_pa_step
  rw [t4, t2]
  refine pk_eq (tK s n p) 0 (fun z => k h ⟨pd, t, t1, t2, ?_, ?_, t5⟩) (fun z => ?_)
  · have : n ≤ p := by have := tK_c s n p; omega
    unfold nxp; rw [if_neg (by omega)]; exact t3
  · have : n ≤ p := by have := tK_c s n p; omega
    unfold nxp; rw [if_neg (by omega)]; exact t4
  · have hp : p < n := by have := tK_c s n p; omega
    have ht : t < N := by
      by_cases z2 : t = N
      · rw [z2, tk.2.1] at t3; omega
      · omega
    refine pk_le 400 t (fun z2 => by omega) (fun _ => ?_)
    rw [nI_1]
    refine fe ?_
    have e5 : (gk_hf h 63 5 (nI (t + 1))).1 63 5 = nI (t + 1) := by rw [hf_f, if_pos ⟨rfl, rfl⟩]
    rw [e5]
    refine ⟨vp_in_nI (by omega) (by decide), fe (k _ ⟨PD_hf (PD_hf pd (by decide)) (by decide), t + 1, by omega, ?_, ?_, ?_, CF0_hf (by decide) (CF0_hf (by decide) t5)⟩)⟩
    · rw [hf_f, if_neg (by decide)]; exact e5
    · show nxp s n (pos s n t) = _; rw [t3]
    · have a := (tk.2.2.2 (t + 1) (by omega)).1
      rw [hf_f, if_pos ⟨rfl, rfl⟩, nI_clamp (by omega), hf_2, pd.1, a]
      show nI (tK s n (nxp s n (pos s n t))) = _
      rw [t3]
theorem s_pa_refuse {K : Int32 → gk_H → Prop} {f : Nat} (tk : TK h0 n s N) (q : CQ h0 h s n N p) (k : ∀ h', CQf h0 h' (f, p) → K 0 h') : gk_ci E (d + 1) jpa_refuse [.ref 63, .int (nI f)] h K := by
  obtain ⟨pd, t, t1, t2, t3, t4, t5⟩ := q
  have h4 := tk.1
  have e5 : (gk_hf h 63 2 (nI f)).1 63 5 = nI t := by rw [hf_f, if_neg (by decide)]; exact t2
  refine gk_ci_mk (x_pa_refuse (fe ?_))
  rw [e5]
  refine ⟨vp_in_nI (by omega) (by decide), fe ⟨Or.inl rfl, k _ ⟨PD_hf (PD_hf pd (by decide)) (by decide), ?_, ?_⟩⟩⟩
  · rw [hf_f, if_neg (by decide), hf_f, if_pos ⟨rfl, rfl⟩]
  · rw [hf_f, if_pos ⟨rfl, rfl⟩, nI_clamp (by omega), hf_2, pd.1, (tk.2.2.2 t t1).2.1, t3]
theorem s_pa_take {K : Int32 → gk_H → Prop} {w : Nat} (hw : w < 200) (tk : TK h0 n s N) (q : CQ h0 h s n N p) (k : OC (pT (tkT s n) w p) (fun e => ∀ h', CQf h0 h' e → K 0 h') (fun r => ∀ h', CQ h0 h' s n N r → K 1 h')) : gk_ci E (d + 2) jpa_take [.ref 63, .int (nI w)] h K := by
  have hb := tK_lt s n p
  obtain ⟨t, t1, t2, t3, t4, t5⟩ := q.2
  refine gk_ci_mk (x_pa_take ?_)
  unfold w_pa_take
  rw [t4]
  unfold pT at k
  refine pk_eq (tK s n p) w (fun z => ?_) (fun z => ?_)
  · rw [if_pos (show (tkT s n).1 p = w from z)] at k
    exact s_pa_step (d := d) tk q (fun h' q' => ⟨Or.inr rfl, k h' q'⟩)
  · rw [if_neg (show ¬ (tkT s n).1 p = w from z)] at k
    exact s_pa_refuse (d := d) (f := 1) tk q (fun h' q' => ⟨Or.inl rfl, k h' q'⟩)
theorem s_pa_takeNumber {K : Int32 → gk_H → Prop} {lo hi un : Nat} {a1 a2 : Int32} (o : okK (tkT s n) n) (hlo : lo < 10000) (h1 : ∀ v, v < 10000 → (nI v ≤ a1 ↔ v < hi)) (h2 : ∀ v, v < 10000 → (nI v = a2 ↔ v = un)) (tk : TK h0 n s N) (q : CQ h0 h s n N p) (k : OC (pN (tkT s n) lo hi un p) (fun e => ∀ h', CQf h0 h' e → K (-1) h') (fun x => ∀ h', CQ h0 h' s n N x.1 → K (nI x.2) h')) : gk_ci E (d + 2) jpa_takeNumber [.ref 63, .int (nI lo), .int a1, .int a2] h K := by
  have hb := tK_lt s n p
  have h4 := tk.1
  obtain ⟨t, t1, t2, t3, t4, t5⟩ := q.2
  have tv := (tk.2.2.2 t t1).2.2
  rw [t3, ← q.1.1] at tv
  refine gk_ci_mk (x_pa_takeNumber ?_)
  unfold w_pa_takeNumber
  rw [t4, t2, nI_clamp (by omega)]
  refine ⟨vp_in_nI (by omega) (by decide), fe ?_⟩
  unfold pN at k
  refine pk_eq (tK s n p) 1 (fun z => ?_) (fun z => ?_)
  · rw [if_pos (show (tkT s n).1 p = 1 from z)] at k
    have hv : tkV s n p < 10000 := o.2.2 p z
    rw [tv z]
    have rf : ¬ (lo ≤ tkV s n p ∧ tkV s n p < hi ∧ ¬ tkV s n p = un) → gk_ci E (d + 1) jpa_refuse [.ref 63, .int 2] h (fun _ h_4 => gk_qi K (some (.int (-1))) h_4) := fun nn => by
      rw [if_neg (show ¬ (lo ≤ (tkT s n).2.1 p ∧ (tkT s n).2.1 p < hi ∧ ¬ (tkT s n).2.1 p = un) from nn)] at k
      exact s_pa_refuse (d := d) (f := 2) tk q (fun h' q' => k h' q')
    by_cases c : nI lo ≤ nI (tkV s n p) ∧ nI (tkV s n p) ≤ a1
    · refine s_wi1 (d := d) c (yF (by decide) ?_)
      have c1 := (nI_leI (by omega) (by omega)).mp c.1
      have c2 := (h1 _ hv).mp c.2
      refine ⟨fun z2 => ?_, fun z2 => rf fun nn => nn.2.2 ((h2 _ hv).mp z2)⟩
      rw [if_pos (show lo ≤ (tkT s n).2.1 p ∧ (tkT s n).2.1 p < hi ∧ ¬ (tkT s n).2.1 p = un from ⟨c1, c2, fun y => z2 ((h2 _ hv).mpr y)⟩)] at k
      exact s_pa_step (d := d) tk q (fun h' q' => k h' q')
    · refine s_wi0 (d := d) c (yT rfl (rf fun nn => c ⟨nI_le nn.1 (by omega), (h1 _ hv).mpr nn.2.1⟩))
  · rw [if_neg (show ¬ (tkT s n).1 p = 1 from z)] at k
    exact s_pa_refuse (d := d) (f := 1) tk q (fun h' q' => k h' q')
theorem un_n : ∀ v, v < 10000 → (nI v = (-1 : Int32) ↔ v = 10000) := fun v hv => ⟨fun q => absurd q (nI_m1 (by omega)), fun q => by omega⟩
theorem un_s {u : Nat} (hu : u < 10000) : ∀ v, v < 10000 → (nI v = nI u ↔ v = u) := fun v hv => nI_eq (by omega) (by omega)
theorem hi_n {m : Nat} {a : Int32} (e : a = nI m) (hm : m < 10000) : ∀ v, v < 10000 → (nI v ≤ a ↔ v < m + 1) := fun v hv => by rw [e, nI_leI (by omega) (by omega)]; omega
theorem hi_p {m : Nat} (hm : m < 10000) : ∀ v, v < 10000 → (nI v ≤ nI m - 1 ↔ v < m) := fun v hv => by
  by_cases z : m = 0
  · rw [z]
    exact ⟨fun q => absurd (Int32.le_trans (nI_pos' (n := v) (by omega)) q) (by decide), fun q => by omega⟩
  · rw [show nI m - 1 = nI (m - 1) from pk_sub (b := 1) (by omega), nI_leI (by omega) (by omega)]; omega
theorem s_pa_takeRoom {K : Int32 → gk_H → Prop} {un : Nat} {a2 : Int32} (o : okK (tkT s n) n) (h2 : ∀ v, v < 10000 → (nI v = a2 ↔ v = un)) (tk : TK h0 n s N) (q : CQ h0 h s n N p) (k : OC (pN (tkT s n) 0 6 un p) (fun e => ∀ h', CQf h0 h' e → K (-1) h') (fun x => ∀ h', CQ h0 h' s n N x.1 → K (nI x.2) h')) : gk_ci E (d + 3) jpa_takeRoom [.ref 63, .int a2] h K :=
  gk_ci_mk (x_pa_takeRoom (s_pa_takeNumber (d := d) (lo := 0) (hi := 6) o (by decide) (hi_n (m := 5) rfl (by decide)) h2 tk q k))
theorem s_pa_takePlace {K : Int32 → gk_H → Prop} {un pl : Nat} {a2 : Int32} (o : okK (tkT s n) n) (h2 : ∀ v, v < 10000 → (nI v = a2 ↔ v = un)) (hpl : pl ≤ 10) (e4 : h0.1 63 4 = nI pl) (tk : TK h0 n s N) (q : CQ h0 h s n N p) (k : OC (pN (tkT s n) 0 pl un p) (fun e => ∀ h', CQf h0 h' e → K (-1) h') (fun x => ∀ h', CQ h0 h' s n N x.1 → K (nI x.2) h')) : gk_ci E (d + 3) jpa_takePlace [.ref 63, .int a2] h K := by
  refine gk_ci_mk (x_pa_takePlace ?_)
  unfold w_pa_takePlace
  rw [q.1.2 63 4 (by omega), e4]
  exact s_pa_takeNumber (d := d) (lo := 0) (hi := pl) o (by decide) (hi_p (by omega)) h2 tk q k
end PTK
/-! codes -/
def LD (h h' : gk_H) : Prop := fr (fun k => k = 63 ∨ k = 65 ∨ k = 70 ∨ k = 71) h h' ∧ h'.1 63 4 = h.1 63 4 ∧ h'.1 65 0 = h.1 65 0
def CCo (h : gk_H) (c : gSg) : Prop := h.1 65 1 = nI c.length ∧ ∀ i x, c[i]? = some x → h.2.1 70 i = x.1 ∧ h.2.1 71 i = x.2
def CSt (h0 h : gk_H) (s : Nat → Nat) (n N p : Nat) (c : gSg) : Prop := LD h0 h ∧ CTok h s n N p ∧ CCo h c
def CSf (h0 h : gk_H) (e : Nat × Nat) : Prop := LD h0 h ∧ CFt h e
theorem LD_PD {h h' h'' : gk_H} (a : LD h h') (b : PD h' h'') : LD h h'' := by
  refine ⟨fun k hk => ?_, (b.2 63 4 (by omega)).trans a.2.1, (b.2 65 0 (by omega)).trans a.2.2⟩
  obtain ⟨c1, c2, c3⟩ := a.1 k hk
  refine ⟨?_, by rw [b.1]; exact c2, by rw [b.1]; exact c3⟩
  rw [← c1]
  funext j
  exact b.2 k j (fun z => hk (Or.inl z.1))
def cK (h0 : gk_H) (s : Nat → Nat) (n N : Nat) (K : Int32 → gk_H → Prop) (R : pRe (Nat × gSg)) : Prop := OC R (fun e => ∀ h', CSf h0 h' e → K 0 h') (fun x => ∀ h', CSt h0 h' s n N x.1 x.2 → K 1 h')
def wI (w : Nat) : Int32 := if w = 0 then -1 else nI w
section PCO
variable {E : gk_E} {d : Nat} {h h0 : gk_H} {n N p : Nat} {s : Nat → Nat} {c : gSg}
theorem CS_tk (tk : TK h0 n s N) (st : CSt h0 h s n N p c) : TK h n s N := TK_2 (st.1.1 60 (by omega)).2.1 (st.1.1 61 (by omega)).2.1 (st.1.1 62 (by omega)).2.1 tk
theorem CS_PD {h' : gk_H} {q : Nat} (st : CSt h0 h s n N p c) (z : CQ h h' s n N q) : CSt h0 h' s n N q c := by
  refine ⟨LD_PD st.1 z.1, z.2, ?_⟩
  obtain ⟨-, -, c1, c2⟩ := st
  exact ⟨(z.1.2 65 1 (by omega)).trans c1, by rw [z.1.1]; exact c2⟩
theorem CS_f {h' : gk_H} {e : Nat × Nat} (st : CSt h0 h s n N p c) (z : CQf h h' e) : CSf h0 h' e := ⟨LD_PD st.1 z.1, z.2⟩
theorem s_cs_step {K : gk_H → Prop} (tk : TK h0 n s N) (st : CSt h0 h s n N p c) (k : ∀ h', CSt h0 h' s n N (nxp s n p) c → K h') : gk_cv E (d + 1) jpa_step [.ref 63] h K := s_pa_step (CS_tk tk st) ⟨PD_rf, st.2.1⟩ (fun h' q' => k h' (CS_PD st q'))
theorem s_cs_refuse {K : Int32 → gk_H → Prop} {f : Nat} (tk : TK h0 n s N) (st : CSt h0 h s n N p c) (k : ∀ h', CSf h0 h' (f, p) → K 0 h') : gk_ci E (d + 1) jpa_refuse [.ref 63, .int (nI f)] h K := s_pa_refuse (CS_tk tk st) ⟨PD_rf, st.2.1⟩ (fun h' q' => k h' (CS_f st q'))
theorem s_cs_take {K : Int32 → gk_H → Prop} {w : Nat} (hw : w < 200) (tk : TK h0 n s N) (st : CSt h0 h s n N p c) (k : OC (pT (tkT s n) w p) (fun e => ∀ h', CSf h0 h' e → K 0 h') (fun r => ∀ h', CSt h0 h' s n N r c → K 1 h')) : gk_ci E (d + 2) jpa_take [.ref 63, .int (nI w)] h K := s_pa_take hw (CS_tk tk st) ⟨PD_rf, st.2.1⟩ (OC_mo k (fun e H h' q' => H h' (CS_f st q')) (fun r _ H h' q' => H h' (CS_PD st q')))
theorem s_la_add {K : gk_H → Prop} {x y : Int32} (st : CSt h0 h s n N p c) (hc : c.length < 400) (k : ∀ h', CSt h0 h' s n N p (c ++ [(x, y)]) → K h') : gk_cv E (d + 1) jla_add [.ref 65, .int x, .int y] h K := by
  obtain ⟨⟨l1, l2, l3⟩, ⟨t, t1, t2, t3, t4, t5⟩, c1, c2⟩ := st
  refine gk_cv_mk (x_la_add ?_)
  unfold w_la_add
  rw [c1]
  refine pk_le 400 c.length (fun q => by omega) (fun _ => ⟨vp_in_nI hc (by decide), ?_⟩)
  rw [nI_clamp (by omega)]
  refine fe ?_
  have e1 : (gk_ha h 70 c.length x).1 65 1 = nI c.length := c1
  rw [e1, nI_clamp (by omega)]
  refine ⟨vp_in_nI hc (by decide), fe ?_⟩
  have e2 : (gk_ha (gk_ha h 70 c.length x) 71 c.length y).1 65 1 = nI c.length := c1
  rw [e2, nI_1]
  refine fe (k _ ⟨⟨fr_tr l1 (fr_tr (fr_tr (fr_ha (by omega)) (fr_ha (by omega))) (fr_hf (by omega))), ?_, ?_⟩, ⟨t, t1, ?_, t3, ?_, CF0_hf (by decide) t5⟩, ?_, fun i z hz => ?_⟩)
  · rw [hf_f, if_neg (by decide)]; exact l2
  · rw [hf_f, if_neg (by decide)]; exact l3
  · rw [hf_f, if_neg (by decide)]; exact t2
  · rw [hf_f, if_neg (by decide)]; exact t4
  · rw [hf_f, if_pos ⟨rfl, rfl⟩, List.length_append]; rfl
  · rw [hf_2, ha_o (by decide), OW_set, OW_set, ha_o (by decide)]
    by_cases q : i = c.length
    · rw [q, List.getElem?_append_right (Nat.le_refl _), Nat.sub_self] at hz
      cases hz
      rw [if_pos q, if_pos q]
      exact ⟨rfl, rfl⟩
    · have hi : i < c.length := by
        have := List.getElem?_eq_some_iff.mp hz
        obtain ⟨l, -⟩ := this
        rw [List.length_append] at l
        have l : i < c.length + 1 := l
        omega
      rw [List.getElem?_append_left hi] at hz
      rw [if_neg q, if_neg q]
      exact c2 i z hz
theorem s_pa_addWaiting {K : gk_H → Prop} {w : Nat} (hw : w < 100) (st : CSt h0 h s n N p c) (hc : c.length + wl w ≤ 400) (k : ∀ h', CSt h0 h' s n N p (c ++ wt w) → K h') : gk_cv E (d + 2) jpa_addWaiting [.ref 63, .int (wI w)] h K := by
  refine gk_cv_mk (x_pa_addWaiting ?_)
  by_cases q : w = 0
  · rw [q, wt_0, List.append_nil] at k
    rw [q]
    exact yT rfl (k h st)
  · have e : wI w = nI w := by unfold wI; rw [if_neg q]
    have l : wl w = 1 := by unfold wl; rw [if_neg q]
    rw [wt_s q] at k
    rw [e]
    exact yF (nI_m1 (by omega)) (s_la_add (d := d) st (by omega) k)
theorem s_pa_readUnit {K : Int32 → gk_H → Prop} (o : okK (tkT s n) n) (h4 : n ≤ 400) (tk : TK h0 n s N) (st : CSt h0 h s n N p c) (hl : c.length ≤ p) (k : OC (pU (tkT s n) p) (fun e => ∀ h', CSf h0 h' e → K 0 h') (fun x => ∀ h', CSt h0 h' s n N x.1 (c ++ [x.2]) → K 1 h')) : gk_ci E (d + 2) jpa_readUnit [.ref 63] h K := by
  have hb := tK_lt s n p
  obtain ⟨t, t1, t2, t3, t4, t5⟩ := st.2.1
  have hN := tk.1
  have tv := ((CS_tk tk st).2.2.2 t t1).2.2
  rw [t3] at tv
  refine gk_ci_mk (x_pa_readUnit ?_)
  unfold w_pa_readUnit
  rw [t4, t2, nI_clamp (by omega)]
  unfold pU at k
  refine pk_ne (tK s n p) 1 (fun z => ?_) (fun z => ⟨vp_in_nI (by omega) (by decide), ?_⟩)
  · rw [if_neg (show ¬ (tkT s n).1 p = 1 from z)] at k
    refine pk_lt (tK s n p) 107 (fun z2 => ?_) (fun z2 => pk_lt 115 (tK s n p) (fun z3 => ?_) (fun z3 => ?_))
    · rw [if_neg (show ¬ (107 ≤ (tkT s n).1 p ∧ (tkT s n).1 p ≤ 115) from fun y => by have : 107 ≤ tK s n p := y.1; omega)] at k
      exact s_cs_refuse (d := d) (f := 1) tk st (fun h' q' => ⟨Or.inl rfl, k h' q'⟩)
    · rw [if_neg (show ¬ (107 ≤ (tkT s n).1 p ∧ (tkT s n).1 p ≤ 115) from fun y => by have : tK s n p ≤ 115 := y.2; omega)] at k
      exact s_cs_refuse (d := d) (f := 1) tk st (fun h' q' => ⟨Or.inl rfl, k h' q'⟩)
    · rw [if_pos (show 107 ≤ (tkT s n).1 p ∧ (tkT s n).1 p ≤ 115 from ⟨z2, z3⟩)] at k
      have hp : p < n := by have := tK_c s n p; omega
      rw [show nI (tK s n p) - 107 = nI (tK s n p - 107) from pk_sub (b := 107) z2]
      exact s_la_add (d := d) st (by omega) (fun h1 st1 => s_cs_step (d := d) tk st1 (fun h2 st2 => ⟨Or.inr rfl, k h2 st2⟩))
  · rw [if_pos (show (tkT s n).1 p = 1 from z)] at k
    have hp : p < n := by have := tK_c s n p; omega
    rw [tv z]
    exact s_la_add (d := d) st (by omega) (fun h1 st1 => s_cs_step (d := d) tk st1 (fun h2 st2 => ⟨Or.inr rfl, k h2 st2⟩))
theorem s_pa_isReckoning {K : Int32 → gk_H → Prop} (t4 : h.1 63 6 = nI (tK s n p)) (k1 : (tK s n p = 43 ∨ tK s n p = 45) ∨ tK s n p = 42 ∨ tK s n p = 47 → K 1 h) (k0 : ¬ ((tK s n p = 43 ∨ tK s n p = 45) ∨ tK s n p = 42 ∨ tK s n p = 47) → K 0 h) : gk_ci E (d + 1) jpa_isReckoning [.ref 63] h K := by
  have hb := tK_lt s n p
  refine gk_ci_mk (x_pa_isReckoning ?_)
  unfold w_pa_isReckoning
  rw [t4]
  exact pk_eq (tK s n p) 43 (fun z => ⟨Or.inr rfl, k1 (by omega)⟩) (fun z => pk_eq (tK s n p) 45 (fun z => ⟨Or.inr rfl, k1 (by omega)⟩) (fun z => pk_eq (tK s n p) 42 (fun z => ⟨Or.inr rfl, k1 (by omega)⟩) (fun z => pk_ne (tK s n p) 47 (fun z => ⟨Or.inl rfl, k0 (by omega)⟩) (fun z => ⟨Or.inr rfl, k1 (by omega)⟩))))
theorem g_pa_sum {K : Int32 → gk_H → Prop} (o : okK (tkT s n) n) (h4 : n ≤ 400) (tk : TK h0 n s N) : ∀ (f i w p : Nat) (c : gSg) (h : gk_H), i + f = 400 → (w = 0 ∨ w = 2 ∨ w = 3) → (X c).length + wl w ≤ p → CSt h0 h s n N p c → cK h0 s n N K (pS (tkT s n) f w p c) → g_pa_readSum_13 E (d + 2) (gk_qi K) (wI w) (nI i) h := by
  intro f
  induction f with
  | zero =>
    intro i w p c h hf hw hl st k
    have xl := X_len c
    have hp := CTok_p tk st.2.1
    exact x_pa_readSum_13 (pk_le 400 i (fun _ => s_pa_addWaiting (d := d) (by omega) st (by omega) (fun h' st' => ⟨Or.inr rfl, k h' st'⟩)) (fun q => by omega))
  | succ f ih =>
    intro i w p c h hf hw hl st k
    have xl := X_len c
    have hp := CTok_p tk st.2.1
    have hb := tK_lt s n p
    obtain ⟨t, t1, t2, t3, t4, t5⟩ := st.2.1
    rw [pS] at k
    refine x_pa_readSum_13 (pk_le 400 i (fun q => by omega) (fun _ => s_pa_isReckoning (d := d + 1) t4 (fun r => yF (by decide) ?_) (fun r => yT rfl ?_)))
    · have hpn : p < n := by have := tK_c s n p; omega
      have hnx := nxp_b (s := s) hpn
      rw [t4, nI_1]
      refine fe (s_cs_step (d := d + 1) tk st (fun h1 st1 => pk_ne (tK s n p) 47 (fun z => ?_) (fun z => ?_)))
      · refine pk_eq (tK s n p) 42 (fun z2 => ?_) (fun z2 => ?_)
        · rw [if_neg (show ¬ ((tkT s n).1 p = 43 ∨ (tkT s n).1 p = 45) from fun y => by have : tK s n p = 43 ∨ tK s n p = 45 := y; omega), if_pos (show (tkT s n).1 p = 42 from z2)] at k
          refine s_pa_readUnit (d := d) o h4 tk st1 (by omega) (OC_bi k (fun e H h' q' => zT rfl ⟨Or.inl rfl, H h' q'⟩) (fun x ex H h' st' => zF (by decide) ?_))
          obtain ⟨u1, u2, u3, u4⟩ := bU o ex
          refine zT (by rw [z2]; rfl) (s_la_add (d := d + 1) st' (by rw [List.length_append]; show c.length + 1 < 400; have : (tkT s n).2.2 p = nxp s n p := rfl; omega) (fun h2 st2 => fe (ih (i + 1) w x.1 _ h2 (by omega) hw ?_ st2 H)))
          rw [X_app, X_app, u4, List.length_append, List.length_append]
          show (X c).length + 1 + 1 + wl w ≤ x.1
          have : (tkT s n).2.2 p = nxp s n p := rfl
          omega
        · have z3 : tK s n p = 43 ∨ tK s n p = 45 := by omega
          rw [if_pos (show (tkT s n).1 p = 43 ∨ (tkT s n).1 p = 45 from z3)] at k
          refine s_pa_addWaiting (d := d) (by omega) st1 (by omega) (fun h2 st2 => ?_)
          have l2 : (c ++ wt w).length ≤ nxp s n p := by rw [List.length_append, wt_l]; omega
          have nxt : ∀ w', w' = (if (tkT s n).1 p = 43 then 2 else 3) → gk_ci E (d + 2) jpa_readUnit [.ref 63] h2 (fun r_19 h_18 => (¬ r_19 = 0 → ((¬ nI (tK s n p) = 42 → (∀ x2_20 : Int32, x2_20 = nI (i + 1) → (g_pa_readSum_13 E (d + 2) (gk_qi K) (nI w') x2_20 h_18))) ∧ (nI (tK s n p) = 42 → (gk_cv E (d + 2) jla_add [.ref 65, .int 4, .int 0] h_18 (fun h_21 => ∀ x2_22 : Int32, x2_22 = nI (i + 1) → (g_pa_readSum_13 E (d + 2) (gk_qi K) (nI w') x2_22 h_21)))))) ∧ (r_19 = 0 → (((0 : Int32) = 0 ∨ (0 : Int32) = 1) ∧ gk_qi K (some (.int 0)) h_18))) := by
            intro w' ew
            rw [← ew] at k
            refine s_pa_readUnit (d := d) o h4 tk st2 l2 (OC_bi k (fun e H h' q' => zT rfl ⟨Or.inl rfl, H h' q'⟩) (fun x ex H h' st' => zF (by decide) (zF (fun y => z2 ((nI_eq (b := 42) (by omega) (by decide)).mp y)) (fe ?_))))
            obtain ⟨u1, u2, u3, u4⟩ := bU o ex
            have w2 : w' = 2 ∨ w' = 3 := by rw [ew]; split <;> omega
            have := ih (i + 1) w' x.1 _ h' (by omega) (by omega) ?_ st' H
            · rw [show wI w' = nI w' by unfold wI; rw [if_neg (by omega)]] at this
              exact this
            · rw [X_app, X_app, X_wt (by omega), u4, List.length_append, List.length_append, wt_l, show wl w' = 1 by unfold wl; rw [if_neg (by omega)]]
              show (X c).length + wl w + 1 + 1 ≤ x.1
              have : (tkT s n).2.2 p = nxp s n p := rfl
              omega
          refine pk_ne (tK s n p) 43 (fun y => fe (nxt 3 ?_)) (fun y => fe (nxt 2 ?_))
          · rw [if_neg (show ¬ (tkT s n).1 p = 43 from y)]
          · rw [if_pos (show (tkT s n).1 p = 43 from y)]
      · rw [if_neg (show ¬ ((tkT s n).1 p = 43 ∨ (tkT s n).1 p = 45) from fun y => by have : tK s n p = 43 ∨ tK s n p = 45 := y; omega), if_neg (show ¬ (tkT s n).1 p = 42 from fun y => by have : tK s n p = 42 := y; omega), if_pos (show (tkT s n).1 p = 47 from z)] at k
        refine s_pa_takeNumber (d := d) (lo := 1) (hi := 10000) o (by decide) (hi_n (m := 9999) rfl (by decide)) un_n (CS_tk tk st1) ⟨PD_rf, st1.2.1⟩ (OC_bi k (fun e H h' q' => fe (zT rfl ⟨Or.inl rfl, H h' (CS_f st1 q')⟩)) (fun x ex H h' st' => ?_))
        obtain ⟨u1, u2, u3, u4, u5, u6, -⟩ := bN o ex
        refine fe (zF (nI_m1 (by omega)) (s_la_add (d := d + 1) (CS_PD st1 st') (by omega) (fun h2 st2 => fe (ih (i + 1) w x.1 _ h2 (by omega) hw ?_ st2 H))))
        rw [X_app, X_five, List.length_append]
        show (X c).length + 2 + wl w ≤ x.1
        have : (tkT s n).2.2 p = nxp s n p := rfl
        omega
    · rw [if_neg (show ¬ ((tkT s n).1 p = 43 ∨ (tkT s n).1 p = 45) from fun y => r (Or.inl y)), if_neg (show ¬ (tkT s n).1 p = 42 from fun y => r (Or.inr (Or.inl y))), if_neg (show ¬ (tkT s n).1 p = 47 from fun y => r (Or.inr (Or.inr y)))] at k
      exact s_pa_addWaiting (d := d) (by omega) st (by omega) (fun h' st' => ⟨Or.inr rfl, k h' st'⟩)
theorem s_pa_readSum {K : Int32 → gk_H → Prop} (o : okK (tkT s n) n) (h4 : n ≤ 400) (tk : TK h0 n s N) (st : CSt h0 h s n N p c) (hl : (X c).length ≤ p) (k : cK h0 s n N K (pSum (tkT s n) p c)) : gk_ci E (d + 3) jpa_readSum [.ref 63] h K := by
  have xl := X_len c
  refine gk_ci_mk (x_pa_readSum (s_pa_readUnit (d := d) o h4 tk st (by omega) (OC_bi k (fun e H h' q' => zT rfl ⟨Or.inl rfl, H h' q'⟩) (fun x ex H h' st' => zF (by decide) (fe (fe ?_))))))
  obtain ⟨u1, u2, u3, u4⟩ := bU o ex
  refine g_pa_sum o h4 tk 400 0 0 x.1 _ h' (by decide) (Or.inl rfl) ?_ st' H
  rw [X_app, u4, List.length_append]
  show (X c).length + 1 + 0 ≤ x.1
  omega
end PCO
