/-! the class: a text read whole -/
section PAR
variable {E : gk_E} {d : Nat} {h h0 : gk_H} {n N : Nat} {s : Nat → Nat}
theorem s_t_refuse {K : Int32 → gk_H → Prop} {f p : Nat} (tk : TK h0 n s N) (f0 : frT h0 h) (ct : CTok h s n N p) (g : ∀ h', Ff h0 h' (f, p) → K 0 h') : gk_ci E (d + 1) jpa_refuse [.ref 63, .int (nI f)] h K := s_pa_refuse (TK_t f0 tk) ⟨PD_rf, ct⟩ (fun h' q' => g h' ⟨frT_tr f0 (frT_PD q'.1), q'.2⟩)
theorem g_pa_pas {K : Int32 → gk_H → Prop} (o : okK (tkT s n) n) (tk : TK h0 n s N) {p : Nat} {a : Nat → Nat} (st : CPa h0 h s n N p a 0) (k : OC (pTx (tkT s n) (fun x => x == 111) (psL (tkT s n)) 17 0 p a) (fun e => ∀ h', Ff h0 h' e → K 0 h') (fun x => ∀ h' q, CPa h0 h' s n N q x.2 x.1 → K 1 h')) : g_pa_parse_64 E (d + 5) (gk_qi K) 1 1 0 h := by
  refine g_pa_loop (s := s) (n := n) (y1 := 1) (beg := fun x => x == 111) (line := psL (tkT s n)) (fun p a k h => CPa h0 h s n N p a k) (fun e h => Ff h0 h e) ?_ ?_ ?_ ?_ ?_ 17 0 p a h rfl st k
  · intro p a k h st
    obtain ⟨t, t1, t2, t3, t4, t5⟩ := st.2.1
    exact t4
  · intro p a k h G st g1 g0
    obtain ⟨t, t1, t2, t3, t4, t5⟩ := st.2.1
    have hb := tK_lt s n p
    refine gk_ci_mk (x_pa_canBegin (yF (by decide) (yT rfl ?_)))
    rw [t4]
    exact pk_ne (tK s n p) 111 (fun z => ⟨Or.inl rfl, g0 (fun y => z (beq_iff_eq.mp y))⟩) (fun z => ⟨Or.inr rfl, g1 (beq_iff_eq.mpr z)⟩)
  · intro p a k h G st g
    refine gk_ci_mk (x_tx_count_64 (zF (by decide) (yF (by decide) (yF (by decide) ⟨vpi (by decide), ?_⟩))))
    rw [show (1 : Int32).toNatClampNeg = 1 by decide, st.2.2.2.2]
    exact g
  · intro f p a k h G st g
    exact s_t_refuse (d := d + 4) tk st.1 st.2.1 g
  · intro p a k h G st hk b kk
    exact zF (by decide) (zT rfl (s_pa_readPassage (d := d + 1) o tk st hk (beq_iff_eq.mp b) kk))
theorem g_pa_vou {K : Int32 → gk_H → Prop} {pl : Nat} (o : okK (tkT s n) n) (tk : TK h0 n s N) (hpl : pl ≤ 10) (e4 : h0.1 63 4 = nI pl) {p : Nat} {a : Nat → Int32} (st : CVo h0 h s n N p a 0) (k : OC (pTx (tkT s n) (fun x => x == 123) (vcL (tkT s n) pl) 17 0 p a) (fun e => ∀ h', Ff h0 h' e → K 0 h') (fun x => ∀ h' q, CVo h0 h' s n N q x.2 x.1 → K 1 h')) : g_pa_parse_64 E (d + 5) (gk_qi K) 3 1 0 h := by
  refine g_pa_loop (s := s) (n := n) (y1 := 3) (beg := fun x => x == 123) (line := vcL (tkT s n) pl) (fun p a k h => CVo h0 h s n N p a k) (fun e h => Ff h0 h e) ?_ ?_ ?_ ?_ ?_ 17 0 p a h rfl st k
  · intro p a k h st
    obtain ⟨t, t1, t2, t3, t4, t5⟩ := st.2.1
    exact t4
  · intro p a k h G st g1 g0
    obtain ⟨t, t1, t2, t3, t4, t5⟩ := st.2.1
    have hb := tK_lt s n p
    refine gk_ci_mk (x_pa_canBegin (yF (by decide) (yF (by decide) (yF (by decide) ?_))))
    rw [t4]
    exact pk_ne (tK s n p) 123 (fun z => ⟨Or.inl rfl, g0 (fun y => z (beq_iff_eq.mp y))⟩) (fun z => ⟨Or.inr rfl, g1 (beq_iff_eq.mpr z)⟩)
  · intro p a k h G st g
    refine gk_ci_mk (x_tx_count_64 (zF (by decide) (yF (by decide) (yF (by decide) ⟨vpi (by decide), ?_⟩))))
    rw [show (3 : Int32).toNatClampNeg = 3 by decide, st.2.2.2]
    exact g
  · intro f p a k h G st g
    exact s_t_refuse (d := d + 4) tk st.1 st.2.1 g
  · intro p a k h G st hk b kk
    exact zF (by decide) (zF (by decide) (zF (by decide) (s_pa_readVoucher (d := d + 1) o tk hpl e4 st hk (beq_iff_eq.mp b) kk)))
theorem g_pa_dia {K : Int32 → gk_H → Prop} {pl : Nat} (o : okK (tkT s n) n) (tk : TK h0 n s N) (hpl : pl ≤ 10) (e4 : h0.1 63 4 = nI pl) {p : Nat} {a : List gDe} (st : CDi h0 h s n N p a 0) (k : OC (pTx (tkT s n) (fun x => x == 117) (dyL (tkT s n) pl) 17 0 p a) (fun e => ∀ h', Ff h0 h' e → K 0 h') (fun x => ∀ h' q, CDi h0 h' s n N q x.2 x.1 → K 1 h')) : g_pa_parse_64 E (d + 5) (gk_qi K) 2 1 0 h := by
  refine g_pa_loop (s := s) (n := n) (y1 := 2) (beg := fun x => x == 117) (line := dyL (tkT s n) pl) (fun p a k h => CDi h0 h s n N p a k) (fun e h => Ff h0 h e) ?_ ?_ ?_ ?_ ?_ 17 0 p a h rfl st k
  · intro p a k h st
    obtain ⟨t, t1, t2, t3, t4, t5⟩ := st.2.1
    exact t4
  · intro p a k h G st g1 g0
    obtain ⟨t, t1, t2, t3, t4, t5⟩ := st.2.1
    have hb := tK_lt s n p
    refine gk_ci_mk (x_pa_canBegin (yF (by decide) (yF (by decide) (yT rfl ?_))))
    rw [t4]
    exact pk_ne (tK s n p) 117 (fun z => ⟨Or.inl rfl, g0 (fun y => z (beq_iff_eq.mp y))⟩) (fun z => ⟨Or.inr rfl, g1 (beq_iff_eq.mpr z)⟩)
  · intro p a k h G st g
    refine gk_ci_mk (x_tx_count_64 (zF (by decide) (yF (by decide) (yF (by decide) ⟨vpi (by decide), ?_⟩))))
    rw [show (2 : Int32).toNatClampNeg = 2 by decide, st.2.2.2.2]
    exact g
  · intro f p a k h G st g
    exact s_t_refuse (d := d + 4) tk st.1 st.2.1 g
  · intro p a k h G st hk b kk
    exact zF (by decide) (zF (by decide) (zT rfl (s_pa_readEntry (d := d) o tk hpl e4 st hk (beq_iff_eq.mp b) kk)))
theorem s_ja_fill_73 {K : gk_H → Prop} (k : ∀ h', fr (fun k => k = 73) h h' → (∀ i, i < 36 → h'.2.1 73 i = 0) → K h') : gk_cv E (d + 1) jja_fill [.ref 73, .int (0 : Int32)] h K := by
  refine gk_cv_mk (x_ja_fill_73 (fe (fe ?_)))
  refine lp_up (N := 36) (fun j (u : gk_H) => g_ja_fill_73_5 E d (gk_qv K) 0 (nI j) 36 u) (fun j u => fr (fun k => k = 73) h u ∧ ∀ i, i < j → u.2.1 73 i = 0) ?_ ?_ 0 h (by decide) ⟨fr_rf, fun i hi => absurd hi (Nat.not_lt_zero _)⟩
  · intro j u hj iv ih
    refine x_ja_fill_73_5 (pk_le 36 j (fun q => by omega) (fun _ => ⟨vp_in_nI hj (by decide), ?_⟩))
    rw [nI_1, nI_clamp (by omega)]
    refine fe (ih _ ⟨fr_tr iv.1 (fr_ha rfl), fun i hi => ?_⟩)
    rw [OW_set]
    by_cases q : i = j
    · rw [if_pos q]
    · rw [if_neg q]; exact iv.2 i (by omega)
  · intro u iv
    exact x_ja_fill_73_5 (pk_le 36 36 (fun _ => k u iv.1 iv.2) (fun q => by omega))
theorem s_ja_fill_75 {K : gk_H → Prop} (k : ∀ h', fr (fun k => k = 75) h h' → (∀ i, i < 10 → h'.2.1 75 i = 0) → K h') : gk_cv E (d + 1) jja_fill [.ref 75, .int (0 : Int32)] h K := by
  refine gk_cv_mk (x_ja_fill_75 (fe (fe ?_)))
  refine lp_up (N := 10) (fun j (u : gk_H) => g_ja_fill_75_5 E d (gk_qv K) 0 (nI j) 10 u) (fun j u => fr (fun k => k = 75) h u ∧ ∀ i, i < j → u.2.1 75 i = 0) ?_ ?_ 0 h (by decide) ⟨fr_rf, fun i hi => absurd hi (Nat.not_lt_zero _)⟩
  · intro j u hj iv ih
    refine x_ja_fill_75_5 (pk_le 10 j (fun q => by omega) (fun _ => ⟨vp_in_nI hj (by decide), ?_⟩))
    rw [nI_1, nI_clamp (by omega)]
    refine fe (ih _ ⟨fr_tr iv.1 (fr_ha rfl), fun i hi => ?_⟩)
    rw [OW_set]
    by_cases q : i = j
    · rw [if_pos q]
    · rw [if_neg q]; exact iv.2 i (by omega)
  · intro u iv
    exact x_ja_fill_75_5 (pk_le 10 10 (fun _ => k u iv.1 iv.2) (fun q => by omega))
/-- what a reading of a text leaves of the rest -/
def PFx (h h' : gk_H) : Prop := fr (fun k => 58 ≤ k ∧ k ≤ 75 ∧ ¬ k = 59) h h' ∧ h'.1 58 4 = h.1 58 4
theorem PFx_tr {h1 h2 h3 : gk_H} (a : PFx h1 h2) (b : PFx h2 h3) : PFx h1 h3 := ⟨fr_tr a.1 b.1, b.2.trans a.2⟩
theorem PFx_t {h1 h2 : gk_H} (a : frT h1 h2) : PFx h1 h2 := ⟨fr_mo a.1 (fun k q => by unfold S_t at q; omega), by rw [(a.1 58 (by unfold S_t; omega)).1]⟩
theorem PFx_lw {h1 h2 : gk_H} (a : fr S_lw h1 h2) : PFx h1 h2 := ⟨fr_mo a (fun k q => by unfold S_lw at q; omega), by rw [(a 58 (by unfold S_lw; omega)).1]⟩
/-- the draft as clearing leaves it -/
def clrP (kd : Nat) (u : gk_H) : Prop := (kd = 0 → u.1 65 0 = 0 ∧ u.1 65 1 = 0) ∧ (kd = 1 → u.2.1 72 1 = 0 ∧ ∀ i, i < 36 → u.2.1 73 i = 0) ∧ (kd = 2 → u.2.1 72 2 = 0) ∧ (kd = 3 → u.2.1 72 3 = 0 ∧ ∀ i, i < 10 → u.2.1 75 i = 0)
theorem s_tx_clearOne {K : gk_H → Prop} {kd : Nat} (hk : kd < 4) (k : ∀ u, fr (fun k => 65 ≤ k ∧ k ≤ 75) h u → clrP kd u → K u) : gk_cv E (d + 2) jtx_clearOne [.ref 64, .int (nI kd)] h K := by
  refine gk_cv_mk (x_tx_clearOne (yF (nI_pos (by omega)) (yT (nI_lt (b := 4) hk (by decide)) ⟨vp_in_nI hk (by decide), ?_⟩)))
  rw [nI_clamp (by omega)]
  refine pk_ne kd 0 (fun z0 => pk_ne kd 1 (fun z1 => pk_ne kd 3 (fun z3 => ?_) (fun z3 => ?_)) (fun z1 => ?_)) (fun z0 => ?_)
  · refine k _ (fr_ha (by omega)) ⟨fun q => absurd q z0, fun q => absurd q z1, fun q => ?_, fun q => absurd q z3⟩
    rw [OW_set, if_pos q.symm]
  · refine s_ja_fill_75 (d := d) (fun h' f' e' => k _ (fr_tr (fr_ha (by omega)) (fr_mo f' (fun k q => by omega))) ⟨fun q => by omega, fun q => by omega, fun q => by omega, fun q => ⟨?_, e'⟩⟩)
    rw [(f' 72 (by omega)).2.1, OW_set, if_pos q.symm]
  · refine s_ja_fill_73 (d := d) (fun h' f' e' => k _ (fr_tr (fr_ha (by omega)) (fr_mo f' (fun k q => by omega))) ⟨fun q => by omega, fun q => ⟨?_, e'⟩, fun q => by omega, fun q => by omega⟩)
    rw [(f' 72 (by omega)).2.1, OW_set, if_pos q.symm]
  · refine gk_cv_mk (x_la_clear (fe (fe (k _ (fr_tr (fr_ha (by omega)) (fr_tr (fr_hf (by omega)) (fr_hf (by omega)))) ⟨fun q => ⟨?_, ?_⟩, fun q => by omega, fun q => by omega, fun q => by omega⟩))))
    · rw [hf_f, if_neg (by decide), hf_f, if_pos ⟨rfl, rfl⟩]
    · rw [hf_f, if_pos ⟨rfl, rfl⟩]
theorem s_pa_parse {K : Int32 → gk_H → Prop} {kd pl : Nat} (hk : kd < 4) (tc : TCs h n s) (hloop : ∀ h7 N, PFx h h7 → clrP kd h7 → TK h7 n s N → CTok h7 s n N (pos s n 0) → h7.1 63 4 = nI pl → g_pa_parse_64 E (d + 22) (gk_qi K) (nI kd) 1 0 h7) : gk_ci E (d + 23) jpa_parse [.ref 63, .int (nI kd), .int (nI pl)] h K := by
  have c0 : (0 : Int32).toNatClampNeg = 0 := by decide
  refine gk_ci_mk (x_pa_parse (fe (fe (yF (nI_pos (by omega)) (yT (nI_lt (b := 4) hk (by decide)) (fe (s_tx_clearOne (d := d + 20) hk (fun u f1 c1 => ?_))))))))
  have t1 : TCs u n s := by
    refine ⟨tc.1, ?_, ?_⟩
    · rw [(f1 58 (by omega)).1, hf_f, if_neg (by decide), hf_f, if_neg (by decide), hf_f, if_neg (by decide)]; exact tc.2.1
    · rw [(f1 59 (by omega)).2.1]; exact tc.2.2
  refine s_ta_cutUp (d := d + 15) t1 (fun h5 N f5 e5 tk5 => fe ⟨vpi (by decide), fe (fe (fe ?_))⟩)
  rw [c0]
  have fa : PFx h u := by
    refine ⟨fr_tr (fr_tr (fr_hf (by omega)) (fr_tr (fr_hf (by omega)) (fr_hf (by omega)))) (fr_mo f1 (fun k q => by omega)), ?_⟩
    rw [(f1 58 (by omega)).1, hf_f, if_neg (by decide), hf_f, if_neg (by decide), hf_f, if_neg (by decide)]
  have fb : PFx u h5 := ⟨fr_mo f5 (fun k q => by unfold S_cu at q; omega), e5⟩
  have q63 : ∀ f, h5.1 63 f = (gk_hf (gk_hf (gk_hf h 63 2 0) 63 3 (-1)) 63 4 (nI pl)).1 63 f := fun f => by rw [(f5 63 (by unfold S_cu; omega)).1, (f1 63 (by omega)).1]
  have e60 : (gk_hf h5 63 5 0).2.1 60 0 = nI (tK s n (pos s n 0)) := (tk5.2.2.2 0 (Nat.zero_le _)).1
  rw [e60]
  have cx : ∀ k, 65 ≤ k → (gk_hf (gk_hf h5 63 5 0) 63 6 (nI (tK s n (pos s n 0)))).1 k = u.1 k ∧ (gk_hf (gk_hf h5 63 5 0) 63 6 (nI (tK s n (pos s n 0)))).2.1 k = u.2.1 k := fun k hk => by
    obtain ⟨g1, g2, -⟩ := f5 k (by unfold S_cu; omega)
    refine ⟨?_, g2⟩
    rw [← g1]
    funext j
    rw [hf_f, if_neg (by omega), hf_f, if_neg (by omega)]
  refine hloop _ N (PFx_tr (PFx_tr fa fb) ⟨fr_tr (fr_hf (by omega)) (fr_hf (by omega)), ?_⟩) ?_ (TK_2 (h := h5) rfl rfl rfl tk5) ⟨0, Nat.zero_le _, ?_, rfl, ?_, ?_, ?_⟩ ?_
  · rw [hf_f, if_neg (by decide), hf_f, if_neg (by decide)]
  · unfold clrP at *
    rw [(cx 65 (by decide)).1, (cx 72 (by decide)).2, (cx 73 (by decide)).2, (cx 75 (by decide)).2]
    exact c1
  · rw [hf_f, if_neg (by decide), hf_f, if_pos ⟨rfl, rfl⟩]; rfl
  · rw [hf_f, if_pos ⟨rfl, rfl⟩]
  · rw [hf_f, if_neg (by decide), hf_f, if_neg (by decide), q63, hf_f, if_neg (by decide), hf_f, if_neg (by decide), hf_f, if_pos ⟨rfl, rfl⟩]
  · rw [hf_f, if_neg (by decide), hf_f, if_neg (by decide), q63, hf_f, if_neg (by decide), hf_f, if_pos ⟨rfl, rfl⟩]
  · rw [hf_f, if_neg (by decide), hf_f, if_neg (by decide), q63, hf_f, if_pos ⟨rfl, rfl⟩]
theorem CTok_0 {p : Nat} (c : CTok h s n N p) : CF0 h := by
  obtain ⟨t, t1, t2, t3, t4, t5⟩ := c
  exact t5
theorem s_pa_parse0 {K : Int32 → gk_H → Prop} {pl : Nat} (o : okK (tkT s n) n) (tc : TCs h n s) (k : OC (pTx (tkT s n) begL (lwL (tkT s n)) 17 0 (pos s n 0) ([], [])) (fun e => ∀ h', PFx h h' → CFt h' e → K 0 h') (fun x => ∀ h', PFx h h' → CF0 h' → CCo h' x.2.2 → h'.1 65 0 = nI x.2.1.length → CLn h' x.2.1 → x.2.1.length = x.1 → (X x.2.2).length ≤ 400 → K 1 h')) : gk_ci E (d + 23) jpa_parse [.ref 63, .int (0 : Int32), .int (nI pl)] h K := by
  refine s_pa_parse (kd := 0) (by decide) tc (fun h7 N f7 c7 tk7 t7 e7 => g_pa_law (d := d) o tc.1 tk7 (p := pos s n 0) ⟨⟨fr_rf, rfl⟩, t7, ⟨(c7.1 rfl).2, fun i x hx => by cases hx⟩, (c7.1 rfl).1, fun l e he => by cases he⟩ (OC_mo k (fun e H h' q' => H h' (PFx_tr f7 (PFx_lw q'.1.1)) q'.2) (fun x _ H h' q q' e1 e2 => H h' (PFx_tr f7 (PFx_lw q'.1.1)) (CTok_0 q'.2.1) q'.2.2.1 q'.2.2.2.1 q'.2.2.2.2 e1 e2)))
theorem s_pa_parse1 {K : Int32 → gk_H → Prop} {pl : Nat} (o : okK (tkT s n) n) (tc : TCs h n s) (k : OC (pTx (tkT s n) (fun x => x == 111) (psL (tkT s n)) 17 0 (pos s n 0) (fun _ => 0)) (fun e => ∀ h', PFx h h' → CFt h' e → K 0 h') (fun x => ∀ h', PFx h h' → CF0 h' → psI x.2 → (∀ i, i < 36 → h'.2.1 73 i = nI (x.2 i)) → h'.2.1 72 1 = nI x.1 → K 1 h')) : gk_ci E (d + 23) jpa_parse [.ref 63, .int (1 : Int32), .int (nI pl)] h K := by
  refine s_pa_parse (kd := 1) (by decide) tc (fun h7 N f7 c7 tk7 t7 e7 => g_pa_pas (d := d + 17) o tk7 (p := pos s n 0) (a := fun _ => 0) ⟨⟨fr_rf, rfl⟩, t7, ⟨fun _ _ _ _ => rfl, fun _ _ => Nat.zero_le _⟩, (c7.2.1 rfl).2, (c7.2.1 rfl).1⟩ (OC_mo k (fun e H h' q' => H h' (PFx_tr f7 (PFx_t q'.1)) q'.2) (fun x _ H h' q q' => H h' (PFx_tr f7 (PFx_t q'.1)) (CTok_0 q'.2.1) q'.2.2.1 q'.2.2.2.1 q'.2.2.2.2)))
theorem s_pa_parse2 {K : Int32 → gk_H → Prop} {pl : Nat} (hpl : pl ≤ 10) (o : okK (tkT s n) n) (tc : TCs h n s) (k : OC (pTx (tkT s n) (fun x => x == 117) (dyL (tkT s n) pl) 17 0 (pos s n 0) []) (fun e => ∀ h', PFx h h' → CFt h' e → K 0 h') (fun x => ∀ h', PFx h h' → CF0 h' → x.2.length = x.1 → (∀ i, i < 4 * x.1 → h'.2.1 74 i = dF x.2 i) → h'.2.1 72 2 = nI x.1 → K 1 h')) : gk_ci E (d + 23) jpa_parse [.ref 63, .int (2 : Int32), .int (nI pl)] h K := by
  refine s_pa_parse (kd := 2) (by decide) tc (fun h7 N f7 c7 tk7 t7 e7 => g_pa_dia (d := d + 17) o tk7 hpl e7 (p := pos s n 0) (a := []) ⟨⟨fr_rf, rfl⟩, t7, rfl, fun i hi => by omega, c7.2.2.1 rfl⟩ (OC_mo k (fun e H h' q' => H h' (PFx_tr f7 (PFx_t q'.1)) q'.2) (fun x _ H h' q q' => H h' (PFx_tr f7 (PFx_t q'.1)) (CTok_0 q'.2.1) q'.2.2.1 q'.2.2.2.1 q'.2.2.2.2)))
theorem s_pa_parse3 {K : Int32 → gk_H → Prop} {pl : Nat} (hpl : pl ≤ 10) (o : okK (tkT s n) n) (tc : TCs h n s) (k : OC (pTx (tkT s n) (fun x => x == 123) (vcL (tkT s n) pl) 17 0 (pos s n 0) (fun _ => 0)) (fun e => ∀ h', PFx h h' → CFt h' e → K 0 h') (fun x => ∀ h', PFx h h' → CF0 h' → (∀ i, i < 10 → h'.2.1 75 i = x.2 i) → h'.2.1 72 3 = nI x.1 → K 1 h')) : gk_ci E (d + 23) jpa_parse [.ref 63, .int (3 : Int32), .int (nI pl)] h K := by
  refine s_pa_parse (kd := 3) (by decide) tc (fun h7 N f7 c7 tk7 t7 e7 => g_pa_vou (d := d + 17) o tk7 hpl e7 (p := pos s n 0) (a := fun _ => 0) ⟨⟨fr_rf, rfl⟩, t7, (c7.2.2.2 rfl).2, (c7.2.2.2 rfl).1⟩ (OC_mo k (fun e H h' q' => H h' (PFx_tr f7 (PFx_t q'.1)) q'.2) (fun x _ H h' q q' => H h' (PFx_tr f7 (PFx_t q'.1)) (CTok_0 q'.2.1) q'.2.2.1 q'.2.2.2)))
end PAR
/-! what the lines tell -/
theorem pTx_inv {τ : gTk} {σ : Type} {beg : Nat → Bool} {line : Nat → σ → pRe (Nat × σ)} (I : Nat → σ → Prop) (hI : ∀ p a k x, beg (τ.1 p) = true → k < 16 → I k a → line p a = .ok x → I (k + 1) x.2) : ∀ (f k p : Nat) (a : σ) (y : Nat × σ), k ≤ 16 → I k a → pTx τ beg line f k p a = .ok y → I y.1 y.2 ∧ y.1 ≤ 16 := by
  intro f
  induction f with
  | zero =>
    intro k p a y hk iv e
    rw [pTx] at e
    cases e
    exact ⟨iv, hk⟩
  | succ f ih =>
    intro k p a y hk iv e
    rw [pTx] at e
    split at e
    · cases e
      exact ⟨iv, hk⟩
    · split at e
      · rename_i b
        split at e
        · rename_i k16
          obtain ⟨x, ex, e⟩ := bind_ok e
          exact ih (k + 1) x.1 x.2 y (by omega) (hI p a k x b k16 iv ex) e
        · cases e
      · cases e
def okE (c : gSg) (e : gLe) : Prop := ∃ A B r, e.2.2.1 = e.2.1 ++ A ∧ e.2.2.2 = e.2.1 ++ A ++ B ∧ c = e.2.1 ++ A ++ B ++ r ∧ (∀ w, okLn (w, (A, B), (X A, X B))) ∧ e.1 ≤ 2
theorem law_I {τ : gTk} {n : Nat} (o : okK τ n) {f p : Nat} {y : Nat × gLw} (e : pTx τ begL (lwL τ) f 0 p ([], []) = .ok y) : (y.2.1.length = y.1 ∧ ∀ e, e ∈ y.2.1 → okE y.2.2 e) ∧ y.1 ≤ 16 := by
  refine pTx_inv (fun k a => a.1.length = k ∧ ∀ e, e ∈ a.1 → okE a.2 e) ?_ f 0 p ([], []) y (by decide) ⟨rfl, fun e he => by cases he⟩ e
  intro p a k x b hk iv ex
  have bb := begL_1.mp b
  obtain ⟨A, B, e1, ok⟩ := eLine o ex
  rw [e1]
  refine ⟨?_, fun e he => ?_⟩
  · show (a.1 ++ [_]).length = k + 1
    rw [List.length_append, iv.1]; rfl
  · rcases List.mem_append.mp he with q | q
    · obtain ⟨A', B', r, g1, g2, g3, g4, g5⟩ := iv.2 e q
      refine ⟨A', B', r ++ A ++ B, g1, g2, ?_, g4, g5⟩
      show a.2 ++ A ++ B = _
      rw [g3]
      simp only [List.append_assoc]
    · cases q with
      | head => exact ⟨A, B, [], rfl, rfl, (List.append_nil _).symm, ok, by show τ.1 p - 100 ≤ 2; omega⟩
      | tail _ q => cases q
theorem pas_I {τ : gTk} {f p : Nat} {y : Nat × (Nat → Nat)} (e : pTx τ (fun x => x == 111) (psL τ) f 0 p (fun _ => 0) = .ok y) : y.1 ≤ 16 := (pTx_inv (fun _ _ => True) (fun _ _ _ _ _ _ _ _ => trivial) f 0 p _ y (by decide) trivial e).2
theorem bI_nb {v : Nat} {j pl : Nat} (hv : v < 2 ^ pl) (hj : j < pl) (hpl : pl ≤ 10) : ∃ v', v' < 2 ^ pl ∧ nI v ||| ((1 : Int32) <<< (nI j &&& 31)) = nI v' := by
  have p10 : 2 ^ pl ≤ 2 ^ 10 := Nat.pow_le_pow_right (by decide) hpl
  have l : v ||| 2 ^ j < 2 ^ pl := Nat.or_lt_two_pow hv (Nat.pow_lt_pow_right (by decide) hj)
  refine ⟨v ||| 2 ^ j, l, bI_ext fun c hc => ?_⟩
  rw [bI_or, bI_nI (by omega), bI_nI (by omega), bI_one (by omega), Nat.testBit_or, Nat.testBit_two_pow]
  congr 1
  simp only [decide_eq_decide]
  exact eq_comm
theorem vou_I {τ : gTk} {n pl : Nat} (hpl : pl ≤ 10) (o : okK τ n) {f p : Nat} {y : Nat × (Nat → Int32)} (e : pTx τ (fun x => x == 123) (vcL τ pl) f 0 p (fun _ => 0) = .ok y) : (∀ i, i < 10 → ∃ v, v < 2 ^ pl ∧ y.2 i = nI v) ∧ y.1 ≤ 16 := by
  refine pTx_inv (fun k a => ∀ i, i < 10 → ∃ v, v < 2 ^ pl ∧ a i = nI v) ?_ f 0 p (fun _ => 0) y (by decide) (fun i _ => ⟨0, Nat.two_pow_pos _, rfl⟩) e
  intro p a k x b hk iv ex
  unfold vcL at ex
  obtain ⟨x1, e1, ex⟩ := bind_ok ex
  obtain ⟨x2, e2, ex⟩ := bind_ok ex
  obtain ⟨x3, e3, ex⟩ := bind_ok ex
  cases ex
  obtain ⟨-, b5, -, -⟩ := bTN o e2
  intro i hi
  show ∃ v, v < 2 ^ pl ∧ vcA a x1.2 x2.2 i = nI v
  unfold vcA
  obtain ⟨v, v1, v2⟩ := iv i hi
  split
  · rw [v2]
    exact bI_nb v1 b5 hpl
  · exact ⟨v, v1, v2⟩
def dOkE (pl : Nat) (e : gDe) : Prop := e.2.1 ≤ 4 ∧ e.2.2.1 < 10 ∧ e.2.2.2 < 10 ∧ (e.2.1 = 3 → e.2.2.1 < 6) ∧ (e.2.1 ≠ 3 → e.2.2.1 < pl) ∧ (e.2.1 = 2 → e.2.2.2 < 6) ∧ (e.2.1 = 4 → e.2.2.2 < 8)
theorem dia_I {s : Nat → Nat} {n pl : Nat} (hpl : pl ≤ 10) (o : okK (tkT s n) n) {f p : Nat} {y : Nat × List gDe} (e : pTx (tkT s n) (fun x => x == 117) (dyL (tkT s n) pl) f 0 p [] = .ok y) : (y.2.length = y.1 ∧ ∀ e, e ∈ y.2 → dOkE pl e) ∧ y.1 ≤ 16 := by
  refine pTx_inv (fun k a => a.length = k ∧ ∀ e, e ∈ a → dOkE pl e) ?_ f 0 p [] y (by decide) ⟨rfl, fun e he => by cases he⟩ e
  intro p a k x b hk iv ex
  unfold dyL at ex
  obtain ⟨x1, e1, ex⟩ := bind_ok ex
  obtain ⟨x2, e2, ex⟩ := bind_ok ex
  obtain ⟨x3, e3, ex⟩ := bind_ok ex
  obtain ⟨x4, e4, ex⟩ := bind_ok ex
  obtain ⟨x5, e5, ex⟩ := bind_ok ex
  cases ex
  have w4 : x2.2 ≤ 4 := by
    unfold pW at e2
    split at e2
    · cases e2
      show (tkT s n).1 x1.1 - 118 ≤ 4
      omega
    · split at e2
      · cases e2; exact (show (3 : Nat) ≤ 4 by decide)
      · split at e2
        · cases e2; exact (show (4 : Nat) ≤ 4 by decide)
        · cases e2
  obtain ⟨-, -, -, -, z5, z6, -⟩ := bN o e3
  have bv := bDt o e4
  refine ⟨?_, fun e he => ?_⟩
  · show (a ++ [_]).length = k + 1
    rw [List.length_append, iv.1]; rfl
  · rcases List.mem_append.mp he with q | q
    · exact iv.2 e q
    · cases q with
      | head =>
        refine ⟨w4, ?_, bv.1, fun z => ?_, fun z => ?_, bv.2.1, bv.2.2⟩
        · show x3.2 < 10
          split at z5 <;> omega
        · have z : x2.2 = 3 := z
          rw [if_pos z] at z5; exact z5
        · have z : ¬ x2.2 = 3 := z
          rw [if_neg z] at z5; exact z5
      | tail _ q => cases q
