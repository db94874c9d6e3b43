/-! text: the reference -/
def S_tm2 (k : Nat) : Prop := k = 112 ∨ (120 ≤ k ∧ k ≤ 130)
/-- what reading leaves as it was -/
def MK (h h' : gk_H) : Prop := fr S_tm2 h h' ∧ (∀ f, (f = 3 ∨ f = 5 ∨ f = 6 ∨ f = 10 ∨ f = 23 ∨ f = 30 ∨ f = 31 ∨ f = 32 ∨ f = 34 ∨ f = 36 ∨ f = 52) → h'.1 112 f = h.1 112 f) ∧ h'.2.1 120 = h.2.1 120 ∧ (∀ i, i < 800 → h'.2.1 125 i = h.2.1 125 i ∧ h'.2.1 126 i = h.2.1 126 i) ∧ (∀ i, i < 32 → h'.2.1 121 i = h.2.1 121 i ∧ h'.2.1 122 i = h.2.1 122 i ∧ h'.2.1 123 i = h.2.1 123 i ∧ h'.2.1 124 i = h.2.1 124 i) ∧ (∀ i, i < 36 → h'.2.1 128 i = h.2.1 128 i) ∧ (∀ i, i < 64 → h'.2.1 129 i = h.2.1 129 i) ∧ ∀ i, i < 10 → h'.2.1 130 i = h.2.1 130 i
theorem MK_ML {h h' : gk_H} (a : MLd h h') : MK h h' := by
  obtain ⟨a1, a2, a3, a4⟩ := a
  refine ⟨fr_mo a1 (fun k q => by unfold S_ml at q; unfold S_tm2; omega), fun f q => a2 f (by unfold mF2 mF; omega), (a1 120 (by unfold S_ml; omega)).2.1, a3, a4, fun i _ => ?_, fun i _ => ?_, fun i _ => ?_⟩
  · rw [(a1 128 (by unfold S_ml; omega)).2.1]
  · rw [(a1 129 (by unfold S_ml; omega)).2.1]
  · rw [(a1 130 (by unfold S_ml; omega)).2.1]
theorem MK_MQ {c : Nat} {h h' : gk_H} (hc : c = 128 ∨ c = 129 ∨ c = 130) (a : MQd c h h') : MK h h' := by
  obtain ⟨a1, a2, a3, a4⟩ := a
  have o : ∀ k, ¬ (k = 112 ∨ k = 125 ∨ k = 126 ∨ k = c) → ∀ i, h'.2.1 k i = h.2.1 k i := fun k hk i => by rw [(a1 k hk).2.1]
  refine ⟨fr_mo a1 (fun k q => by unfold S_tm2; omega), fun f q => a2 f (by unfold mF; omega), (a1 120 (by omega)).2.1, a3, fun i _ => ⟨o 121 (by omega) i, o 122 (by omega) i, o 123 (by omega) i, o 124 (by omega) i⟩, fun i hi => ?_, fun i hi => ?_, fun i hi => ?_⟩
  · by_cases q : c = 128
    · rw [q] at a4; exact a4 i hi
    · exact o 128 (by omega) i
  · by_cases q : c = 129
    · rw [q] at a4; exact a4 i hi
    · exact o 129 (by omega) i
  · by_cases q : c = 130
    · rw [q] at a4; exact a4 i hi
    · exact o 130 (by omega) i
theorem MK_tr {h1 h2 h3 : gk_H} (a : MK h1 h2) (b : MK h2 h3) : MK h1 h3 := by
  obtain ⟨a1, a2, a3, a4, a5, a6, a7, a8⟩ := a
  obtain ⟨b1, b2, b3, b4, b5, b6, b7, b8⟩ := b
  exact ⟨fr_tr a1 b1, fun f q => (b2 f q).trans (a2 f q), b3.trans a3, fun i q => ⟨(b4 i q).1.trans (a4 i q).1, (b4 i q).2.trans (a4 i q).2⟩, fun i q => ⟨(b5 i q).1.trans (a5 i q).1, (b5 i q).2.1.trans (a5 i q).2.1, (b5 i q).2.2.1.trans (a5 i q).2.2.1, (b5 i q).2.2.2.trans (a5 i q).2.2.2⟩, fun i q => (b6 i q).trans (a6 i q), fun i q => (b7 i q).trans (a7 i q), fun i q => (b8 i q).trans (a8 i q)⟩
theorem MK_MT {h h' : gk_H} {T : gT} (h16 : T.1.2.1 ≤ 16) (a : MK h h') (m : MTl h T) : MTl h' T := by
  obtain ⟨a1, a2, a3, a4, a5, a6, a7, a8⟩ := a
  obtain ⟨⟨m1, m2, m3⟩, m4, m5, m6, m7, m8⟩ := m
  refine ⟨⟨(a2 32 (by omega)).trans m1, (a2 34 (by omega)).trans m2, (a2 36 (by omega)).trans m3⟩, fun k hk => (a6 k hk).trans (m4 k hk), fun k hk => (a7 k (by omega)).trans (m5 k hk), fun k hk => (a8 k hk).trans (m6 k hk), mLaw_cp (by rw [a3]) (fun j hj => a5 j (by omega)) (fun j hj => a4 j (by omega)) m7, fun k hk => ?_⟩
  rw [(a1 117 (by unfold S_tm2; omega)).2.1]
  exact m8 k hk
/-- where text begins to read -/
def m6 (h : gk_H) : gk_H := gk_hf (gk_hf (gk_hf (gk_hf (gk_hf (gk_hf h 112 0 0) 112 30 0) 112 31 (-1)) 112 11 0) 112 24 0) 112 25 0
theorem m6_fr {h : gk_H} : fr (fun k => k = 112) h (m6 h) := fr_tr (fr_tr (fr_tr (fr_tr (fr_tr (fr_hf rfl) (fr_hf rfl)) (fr_hf rfl)) (fr_hf rfl)) (fr_hf rfl)) (fr_hf rfl)
theorem m6_f {h : gk_H} {f : Nat} : (m6 h).1 112 f = if f = 25 then 0 else if f = 24 then 0 else if f = 11 then 0 else if f = 31 then -1 else if f = 30 then 0 else if f = 0 then 0 else h.1 112 f := by
  unfold m6
  rw [hf_f, hf_f, hf_f, hf_f, hf_f, hf_f]
  simp only [eq_self, true_and]
def MUx (h u : gk_H) : Prop := fr (fun k => k = 112) h u ∧ (∀ f, ¬ (f = 0 ∨ f = 30 ∨ f = 31 ∨ (11 ≤ f ∧ f ≤ 14) ∨ f = 23 ∨ f = 24 ∨ f = 25) → u.1 112 f = h.1 112 f) ∧ u.1 112 30 = 0 ∧ u.1 112 31 = -1 ∧ u.1 112 23 = 0 ∧ u.1 112 24 = 0 ∧ u.1 112 25 = 0 ∧ u.2 = h.2
/-- what is known behind the reading -/
def MR (h h' : gk_H) (T : gT) : Prop := fr S_tm2 h h' ∧ (∀ f, (f = 3 ∨ f = 5 ∨ f = 6 ∨ f = 10 ∨ f = 32 ∨ f = 34 ∨ f = 36 ∨ f = 52) → h'.1 112 f = h.1 112 f) ∧ (h'.1 112 30 = 0 ∧ h'.1 112 31 = -1 ∧ h'.1 112 23 = 0) ∧ MTl h' T
theorem MR_of {h u h' : gk_H} {T : gT} (h16 : T.1.2.1 ≤ 16) (m : MTl h T) (a : MUx h u) (b : MK u h') : MR h h' T := by
  obtain ⟨u1, u2, u3, u4, u5, u6, u7, u8⟩ := a
  have mu : MTl u T := MTl_eq (fun k _ _ => by rw [u8]) (u2 32 (by omega)) (u2 34 (by omega)) (u2 36 (by omega)) m
  refine ⟨fr_tr (fr_mo u1 (fun k q => by unfold S_tm2; omega)) b.1, fun f q => (b.2.1 f (by omega)).trans (u2 f (by omega)), ⟨(b.2.1 30 (by omega)).trans u3, (b.2.1 31 (by omega)).trans u4, (b.2.1 23 (by omega)).trans u5⟩, MK_MT h16 b mu⟩
section MTX
variable {E : gk_E} {d : Nat} {h : gk_H} {n pl : Nat} {s : Nat → Nat} {T : gT}
theorem MUx_tm {u : gk_H} (a : MUx h u) (t : TMs h n s) : TMs u n s := ⟨t.1, (a.2.1 10 (by omega)).trans t.2.1, by rw [a.2.2.2.2.2.2.2]; exact t.2.2⟩
theorem MUx_wr {u : gk_H} (a : MUx h u) (t : wordsR h) : wordsR u := by unfold wordsR; rw [a.2.2.2.2.2.2.2]; exact t
theorem s_mo_reads0 {K : gk_H → Prop} (tm : TMs h n s) (wr : wordsR h) (k : ∀ u, MUx h u → RTk u n s (pos s n 0) → K u) : gk_cv E (d + 4) jmo_reads [.ref 112] (gk_hf (m6 h) 112 23 0) K := by
  have tm' : TMs (gk_hf (m6 h) 112 23 0) n s := ⟨tm.1, by rw [hf_f, if_neg (by decide), m6_f]; exact tm.2.1, tm.2.2⟩
  refine s_mo_reads (d := d) (i := 0) tm' wr (Nat.zero_le _) ?_ (fun u rd rt => k u ⟨?_, fun f q => ?_, ?_, ?_, ?_, ?_, ?_, rd.1⟩ rt)
  · rw [hf_f, if_neg (by decide), m6_f]; rfl
  · refine fr_tr (fr_tr m6_fr (fr_hf rfl)) (fun k hk => ⟨funext fun j => rd.2 k j (fun z => hk z.1), by rw [rd.1], by rw [rd.1]⟩)
  · rw [rd.2 112 f (by omega), hf_f, if_neg (by omega), m6_f, if_neg (by omega), if_neg (by omega), if_neg (by omega), if_neg (by omega), if_neg (by omega), if_neg (by omega)]
  · rw [rd.2 112 30 (by omega), hf_f, if_neg (by decide), m6_f]; rfl
  · rw [rd.2 112 31 (by omega), hf_f, if_neg (by decide), m6_f]; rfl
  · rw [rd.2 112 23 (by omega), hf_f, if_pos ⟨rfl, rfl⟩]
  · rw [rd.2 112 24 (by omega), hf_f, if_neg (by decide), m6_f]; rfl
  · rw [rd.2 112 25 (by omega), hf_f, if_neg (by decide), m6_f]; rfl
def MRe (h h' : gk_H) (T : gT) (e : Nat × Nat) : Prop := MR h h' T ∧ h'.1 112 28 = nI e.1 ∧ h'.1 112 29 = nI e.2
theorem r_text0 {K : Int32 → gk_H → Prop} (h16 : T.1.2.1 ≤ 16) (o : okK (tkT s n) n) (tm : TMs h n s) (wr : wordsR h) (m : MTl h T) (k : OC (pTx (tkT s n) begL (lwL (tkT s n)) 17 0 (pos s n 0) ([], [])) (fun e => ∀ h', MRe h h' T e → K (-1) h') (fun x => ∀ h', MR h h' T → MCo h' (X x.2.2) → MLn h' x.2.1 → K (nI x.1) h')) : gk_ci E (d + 11) jmo_readsText [.ref 112, .int (0 : Int32)] (m6 h) K := by
  refine gk_ci_mk (x_mo_readsText (s_mo_reads0 (d := d + 6) tm wr (fun u mu rt => zF (by decide) (zF (by decide) (zF (by decide) ?_)))))
  refine gk_ci_mk (x_mo_readLaw (fe ?_))
  refine g_mo_law (d := d) (h0 := u) (s := s) (n := n) o (MUx_tm mu tm) (MUx_wr mu wr) 17 0 (pos s n 0) ([], []) u rfl (by decide) rfl (Nat.zero_le _) ⟨pos_le 0, MLd_rf, rt, ⟨?_, fun i x hx => (by cases hx)⟩, mu.2.2.2.2.2.2.1, fun l e he => by cases he⟩ (OC_mo k (fun e H h' q => H h' ⟨MR_of h16 m mu (MK_ML q.1), q.2⟩) (fun x _ H h' q z => H h' (MR_of h16 m mu (MK_ML z.2.1)) z.2.2.2.1 z.2.2.2.2.2))
  exact mu.2.2.2.2.2.1
theorem z_mo_pas {K : Int32 → gk_H → Prop} (k : ∀ h', MQd 128 h h' → fr (fun k => k = 128) h h' → (∀ i, i < 36 → h'.2.1 128 (36 + i) = 0) → g_mo_readPassages_26 E d (gk_qi K) 0 h') : g_mo_readPassages_2 E d (gk_qi K) 0 h := by
  refine lp_up (N := 36) (fun j (u : gk_H) => g_mo_readPassages_2 E d (gk_qi K) (nI j) u) (fun j u => (MQd 128 h u ∧ fr (fun k => k = 128) h u) ∧ ∀ i, i < j → u.2.1 128 (36 + i) = 0) ?_ ?_ 0 h (by decide) ⟨⟨MQd_rf, fr_rf⟩, fun i hi => absurd hi (Nat.not_lt_zero _)⟩
  · intro j u hj iv ih
    refine x_mo_readPassages_2 (pk_le 36 j (fun q => by omega) (fun _ => ?_))
    rw [show (36 : Int32) + nI j = nI (36 + j) from nI_add 36 j]
    refine ⟨vp_in_nI (by omega) (by decide), ?_⟩
    rw [nI_1, nI_clamp (by omega)]
    refine fe (ih _ ⟨⟨MQd_ha (by decide) (by show 36 ≤ 36 + j; omega) iv.1.1, fr_tr iv.1.2 (fr_ha rfl)⟩, fun i hi => ?_⟩)
    rw [OW_set]
    by_cases q : i = j
    · rw [if_pos (by omega)]
    · rw [if_neg (by omega)]; exact iv.2 i (by omega)
  · intro u iv
    exact x_mo_readPassages_2 (pk_le 36 36 (fun _ => fe (k u iv.1.1 iv.1.2 iv.2)) (fun q => by omega))
theorem z_mo_vou {K : Int32 → gk_H → Prop} (k : ∀ h', MQd 130 h h' → fr (fun k => k = 130) h h' → (∀ i, i < 10 → h'.2.1 130 (10 + i) = 0) → g_mo_readVouches_26 E d (gk_qi K) 0 h') : g_mo_readVouches_2 E d (gk_qi K) 0 h := by
  refine lp_up (N := 10) (fun j (u : gk_H) => g_mo_readVouches_2 E d (gk_qi K) (nI j) u) (fun j u => (MQd 130 h u ∧ fr (fun k => k = 130) h u) ∧ ∀ i, i < j → u.2.1 130 (10 + i) = 0) ?_ ?_ 0 h (by decide) ⟨⟨MQd_rf, fr_rf⟩, fun i hi => absurd hi (Nat.not_lt_zero _)⟩
  · intro j u hj iv ih
    refine x_mo_readVouches_2 (pk_le 10 j (fun q => by omega) (fun _ => ?_))
    rw [show (10 : Int32) + nI j = nI (10 + j) from nI_add 10 j]
    refine ⟨vp_in_nI (by omega) (by decide), ?_⟩
    rw [nI_1, nI_clamp (by omega)]
    refine fe (ih _ ⟨⟨MQd_ha (by decide) (by show 10 ≤ 10 + j; omega) iv.1.1, fr_tr iv.1.2 (fr_ha rfl)⟩, fun i hi => ?_⟩)
    rw [OW_set]
    by_cases q : i = j
    · rw [if_pos (by omega)]
    · rw [if_neg (by omega)]; exact iv.2 i (by omega)
  · intro u iv
    exact x_mo_readVouches_2 (pk_le 10 10 (fun _ => fe (k u iv.1.1 iv.1.2 iv.2)) (fun q => by omega))
/-- at the first token, after a clearing of c -/
theorem RC_0 {c : Nat} {u v : gk_H} (hc : 127 < c) (mu : MUx h u) (rt : RTk u n s (pos s n 0)) (f : fr (fun k => k = c) u v) : RC v v s n (pos s n 0) [] := by
  have e : v.1 112 = u.1 112 := (f 112 (by omega)).1
  refine ⟨pos_le 0, MD_rf, ?_, ?_, fun i x hx => by cases hx⟩
  · unfold RTk at *
    rw [e]; exact rt
  · rw [e]; exact mu.2.2.2.2.2.1
theorem r_text1 {K : Int32 → gk_H → Prop} (h16 : T.1.2.1 ≤ 16) (o : okK (tkT s n) n) (tm : TMs h n s) (wr : wordsR h) (m : MTl h T) (k : OC (pTx (tkT s n) (fun x => x == 111) (psL (tkT s n)) 17 0 (pos s n 0) (fun _ => 0)) (fun e => ∀ h', MRe h h' T e → K (-1) h') (fun x => ∀ h', MR h h' T → (∀ i, i < 36 → h'.2.1 128 (36 + i) = nI (x.2 i)) → K (nI x.1) h')) : gk_ci E (d + 11) jmo_readsText [.ref 112, .int (1 : Int32)] (m6 h) K := by
  refine gk_ci_mk (x_mo_readsText (s_mo_reads0 (d := d + 6) tm wr (fun u mu rt => zT rfl ?_)))
  refine gk_ci_mk (x_mo_readPassages (fe (z_mo_pas (fun v q f e => ?_))))
  refine g_mo_pas (d := d + 1) (h0 := u) (s := s) (n := n) o (MUx_tm mu tm) (MUx_wr mu wr) 17 0 (pos s n 0) (fun _ => 0) v rfl (by decide) ⟨⟨q, RC_0 (by decide) mu rt f⟩, ⟨fun _ _ _ _ => rfl, fun _ _ => Nat.zero_le _⟩, e⟩ (OC_mo k (fun e H h' z => H h' ⟨MR_of h16 m mu (MK_MQ (by decide) z.1), z.2⟩) (fun x _ H h' p a ea z => H h' (MR_of h16 m mu (MK_MQ (by decide) z.1.1)) (by rw [ea]; exact z.2.2)))
theorem r_text2 {K : Int32 → gk_H → Prop} (hpl : pl ≤ 10) (e6 : h.1 112 6 = nI pl) (h16 : T.1.2.1 ≤ 16) (o : okK (tkT s n) n) (tm : TMs h n s) (wr : wordsR h) (m : MTl h T) (k : OC (pTx (tkT s n) (fun x => x == 117) (dyL (tkT s n) pl) 17 0 (pos s n 0) []) (fun e => ∀ h', MRe h h' T e → K (-1) h') (fun x => ∀ h', MR h h' T → (∀ i, i < 4 * x.2.length → h'.2.1 129 (64 + i) = dF x.2 i) → K (nI x.1) h')) : gk_ci E (d + 11) jmo_readsText [.ref 112, .int (2 : Int32)] (m6 h) K := by
  refine gk_ci_mk (x_mo_readsText (s_mo_reads0 (d := d + 6) tm wr (fun u mu rt => zF (by decide) (zT rfl ?_))))
  refine gk_ci_mk (x_mo_readDiary (fe ?_))
  refine g_mo_dia (d := d + 1) (h0 := u) (s := s) (n := n) o (MUx_tm mu tm) (MUx_wr mu wr) hpl ((mu.2.1 6 (by omega)).trans e6) 17 0 (pos s n 0) [] u rfl (by decide) ⟨⟨⟨MQd_rf, RC_0 (c := 129) (by decide) mu rt fr_rf⟩, fun i hi => absurd hi (Nat.not_lt_zero _)⟩, rfl⟩ (OC_mo k (fun e H h' z => H h' ⟨MR_of h16 m mu (MK_MQ (by decide) z.1), z.2⟩) (fun x _ H h' p a ea z => H h' (MR_of h16 m mu (MK_MQ (by decide) z.1.1.1)) (by rw [ea]; exact z.1.2)))
theorem r_text3 {K : Int32 → gk_H → Prop} (hpl : pl ≤ 10) (e6 : h.1 112 6 = nI pl) (h16 : T.1.2.1 ≤ 16) (o : okK (tkT s n) n) (tm : TMs h n s) (wr : wordsR h) (m : MTl h T) (k : OC (pTx (tkT s n) (fun x => x == 123) (vcL (tkT s n) pl) 17 0 (pos s n 0) (fun _ => 0)) (fun e => ∀ h', MRe h h' T e → K (-1) h') (fun x => ∀ h', MR h h' T → (∀ i, i < 10 → h'.2.1 130 (10 + i) = x.2 i) → K (nI x.1) h')) : gk_ci E (d + 11) jmo_readsText [.ref 112, .int (3 : Int32)] (m6 h) K := by
  refine gk_ci_mk (x_mo_readsText (s_mo_reads0 (d := d + 6) tm wr (fun u mu rt => zF (by decide) (zF (by decide) (zT rfl ?_)))))
  refine gk_ci_mk (x_mo_readVouches (fe (z_mo_vou (fun v q f e => ?_))))
  refine g_mo_vou (d := d + 1) (h0 := u) (s := s) (n := n) o (MUx_tm mu tm) (MUx_wr mu wr) hpl ((mu.2.1 6 (by omega)).trans e6) 17 0 (pos s n 0) (fun _ => 0) v rfl (by decide) ⟨⟨q, RC_0 (by decide) mu rt f⟩, e⟩ (OC_mo k (fun e H h' z => H h' ⟨MR_of h16 m mu (MK_MQ (by decide) z.1), z.2⟩) (fun x _ H h' p a ea z => H h' (MR_of h16 m mu (MK_MQ (by decide) z.1.1)) (by rw [ea]; exact z.2)))
end MTX
