/-! passages, diary, vouches: the reference -/
def loN (c : Nat) : Nat := if c = 128 then 36 else if c = 129 then 64 else 10
def MQd (c : Nat) (h h' : gk_H) : Prop := fr (fun k => k = 112 ∨ k = 125 ∨ k = 126 ∨ k = c) h h' ∧ (∀ f, ¬ mF f → h'.1 112 f = h.1 112 f) ∧ (∀ i, i < 800 → h'.2.1 125 i = h.2.1 125 i ∧ h'.2.1 126 i = h.2.1 126 i) ∧ ∀ i, i < loN c → h'.2.1 c i = h.2.1 c i
theorem MQd_rf {c : Nat} {h : gk_H} : MQd c h h := ⟨fr_rf, fun _ _ => rfl, fun _ _ => ⟨rfl, rfl⟩, fun _ _ => rfl⟩
theorem MQd_MD {c : Nat} {h h1 h2 : gk_H} (hc : 127 < c) (a : MQd c h h1) (b : MD h1 h2) : MQd c h h2 := ⟨fr_tr a.1 (fr_mo b.1 (fun k q => by omega)), fun f q => (b.2.1 f q).trans (a.2.1 f q), fun i q => ⟨(b.2.2 i q).1.trans (a.2.2.1 i q).1, (b.2.2 i q).2.trans (a.2.2.1 i q).2⟩, fun i q => by rw [(b.1 c (by omega)).2.1]; exact a.2.2.2 i q⟩
theorem MQd_ha {c i : Nat} {x : Int32} {h h1 : gk_H} (hc : 127 < c) (hi : loN c ≤ i) (a : MQd c h h1) : MQd c h (gk_ha h1 c i x) := ⟨fr_tr a.1 (fr_ha (by omega)), a.2.1, fun j q => by rw [ha_o (by omega), ha_o (by omega)]; exact a.2.2.1 j q, fun j q => by rw [OW_set, if_neg (by omega)]; exact a.2.2.2 j q⟩
def RQf (c : Nat) (h0 h : gk_H) (e : Nat × Nat) : Prop := MQd c h0 h ∧ h.1 112 28 = nI e.1 ∧ h.1 112 29 = nI e.2
theorem RQ_f {c : Nat} {h0 h h' : gk_H} {e : Nat × Nat} (hc : 127 < c) (a : MQd c h0 h) (r : RCf h h' e) : RQf c h0 h' e := ⟨MQd_MD hc a r.1, r.2⟩
theorem TMs_MQd {c : Nat} {h h' : gk_H} {n : Nat} {s : Nat → Nat} (hc : 127 < c) (a : MQd c h h') (t : TMs h n s) : TMs h' n s := ⟨t.1, (a.2.1 10 (by unfold mF; omega)).trans t.2.1, by rw [(a.1 118 (by omega)).2.1]; exact t.2.2⟩
theorem wr_MQd {c : Nat} {h h' : gk_H} (hc : 127 < c) (a : MQd c h h') (t : wordsR h) : wordsR h' := by unfold wordsR; rw [(a.1 119 (by omega)).2.1]; exact t
def RPa (h0 h : gk_H) (s : Nat → Nat) (n p : Nat) (a : Nat → Nat) : Prop := (MQd 128 h0 h ∧ RC h h s n p []) ∧ psI a ∧ ∀ i, i < 36 → h.2.1 128 (36 + i) = nI (a i)
def RVo (h0 h : gk_H) (s : Nat → Nat) (n p : Nat) (a : Nat → Int32) : Prop := (MQd 130 h0 h ∧ RC h h s n p []) ∧ ∀ i, i < 10 → h.2.1 130 (10 + i) = a i
def RDi (h0 h : gk_H) (s : Nat → Nat) (n p : Nat) (L : List gDe) : Prop := (MQd 129 h0 h ∧ RC h h s n p []) ∧ ∀ i, i < 4 * L.length → h.2.1 129 (64 + i) = dF L i
theorem RC_re {h0 h : gk_H} {s : Nat → Nat} {n p : Nat} {C : gSg} (r : RC h0 h s n p C) : RC h h s n p C := ⟨r.1, MD_rf, r.2.2⟩
section OTM
variable {E : gk_E} {d : Nat} {h h0 : gk_H} {n p : Nat} {s : Nat → Nat} {C : gSg}
theorem s_mo_readNumber {K : Int32 → gk_H → Prop} {lo hi : Nat} {a1 : Int32} (tm : TMs h0 n s) (wr : wordsR h0) (hlo : lo < 10000) (h1 : ∀ v, v < 10000 → (nI v ≤ a1 ↔ v < hi)) (st : RC h0 h s n p C) (k : OC (pN (tkT s n) lo hi 10000 p) (fun e => ∀ h', RCf h0 h' e → K (-1) h') (fun x => ∀ h', RC h0 h' s n x.1 C → K (nI x.2) h')) : gk_ci E (d + 5) jmo_readNumber [.ref 112, .int (nI lo), .int a1] h K := by
  have r3 := RTok_3 st.2.2.1.2.2
  refine gk_ci_mk (x_mo_readNumber ?_)
  unfold w_mo_readNumber
  unfold pN at k
  by_cases z : tK s n p = 1
  · obtain ⟨e1, e2, e3⟩ := r3.1 z
    rw [if_pos (show (tkT s n).1 p = 1 from z)] at k
    refine yT e1 ?_
    rw [e2]
    by_cases c : nI lo ≤ nI (tkV s n p) ∧ nI (tkV s n p) ≤ a1
    · have c1 := (nI_leI (by omega) (by omega)).mp c.1
      have c2 := (h1 _ e3).mp c.2
      rw [if_pos (show lo ≤ (tkT s n).2.1 p ∧ (tkT s n).2.1 p < hi ∧ ¬ (tkT s n).2.1 p = 10000 from ⟨c1, c2, fun y => by have : tkV s n p = 10000 := y; omega⟩)] at k
      refine s_in1 (d := d + 3) c (zF (by decide) ?_)
      rw [e2]
      exact fe (s_rc_reads (d := d) tm wr st (fun h' st' => k h' st'))
    · rw [if_neg (show ¬ (lo ≤ (tkT s n).2.1 p ∧ (tkT s n).2.1 p < hi ∧ ¬ (tkT s n).2.1 p = 10000) from fun y => c ⟨nI_le y.1 (by omega), (h1 _ e3).mpr y.2.1⟩)] at k
      exact s_in0 (d := d + 3) c (zT rfl (s_rc_errs (d := d + 3) (f := 2) st (fun h' q' => k h' q')))
  · rw [if_neg (show ¬ (tkT s n).1 p = 1 from z)] at k
    exact yF (r3.2 z) (s_rc_errs (d := d + 3) (f := 1) st (fun h' q' => k h' q'))
theorem s_mo_readMark {K : Int32 → gk_H → Prop} {c : Nat} (tm : TMs h0 n s) (wr : wordsR h0) (h1 : 39 < c) (h2 : c < 64) (st : RC h0 h s n p C) (k : OC (pT (tkT s n) c p) (fun e => ∀ h', RCf h0 h' e → K (-1) h') (fun x => ∀ h', RC h0 h' s n x C → K 0 h')) : gk_ci E (d + 5) jmo_readMark [.ref 112, .int (nI c)] h K := by
  unfold pT at k
  refine gk_ci_mk (x_mo_readMark (s_mo_isSign (d := d + 3) st.2.2.1 h1 h2 (fun z => zF (by decide) ?_) (fun z => zT rfl ?_)))
  · rw [if_pos (show (tkT s n).1 p = c from z)] at k
    exact s_rc_reads (d := d) tm wr st (fun h' st' => k h' st')
  · rw [if_neg (show ¬ (tkT s n).1 p = c from z)] at k
    exact s_rc_errs (d := d + 3) (f := 1) st (fun h' q' => k h' q')
theorem s_mo_readTold {K : Int32 → gk_H → Prop} {w lo hi : Nat} {a1 : Int32} (tm : TMs h0 n s) (wr : wordsR h0) (hw : w < 25) (hlo : lo < 10000) (h1 : ∀ v, v < 10000 → (nI v ≤ a1 ↔ v < hi)) (st : RC h0 h s n p C) (k : OC (pTN (tkT s n) (100 + w) lo hi 10000 p) (fun e => ∀ h', RCf h0 h' e → K (-1) h') (fun x => ∀ h', RC h0 h' s n x.1 C → K (nI x.2) h')) : gk_ci E (d + 6) jmo_readTold [.ref 112, .int (nI w), .int (nI lo), .int a1] h K := by
  unfold pTN pT at k
  refine gk_ci_mk (x_mo_readTold (s_mo_isWord (d := d + 4) st.2.2.1 hw (fun z => zF (by decide) ?_) (fun z => zT rfl ?_)))
  · rw [if_pos (show (tkT s n).1 p = 100 + w from z)] at k
    exact s_rc_reads (d := d + 1) tm wr st (fun h' st' => s_mo_readNumber (d := d) tm wr hlo h1 st' k)
  · rw [if_neg (show ¬ (tkT s n).1 p = 100 + w from z)] at k
    exact s_rc_errs (d := d + 4) (f := 1) st (fun h' q' => k h' q')
theorem s_mo_readOther {K : Int32 → gk_H → Prop} {w u hi : Nat} {a1 : Int32} (tm : TMs h0 n s) (wr : wordsR h0) (hw : w < 25) (hu : u < 10000) (h1 : ∀ v, v < 10000 → (nI v ≤ a1 ↔ v < hi)) (st : RC h0 h s n p C) (k : OC (pTN (tkT s n) (100 + w) 0 hi u p) (fun e => ∀ h', RCf h0 h' e → K (-1) h') (fun x => ∀ h', RC h0 h' s n x.1 C → K (nI x.2) h')) : gk_ci E (d + 6) jmo_readOther [.ref 112, .int (nI w), .int (nI u), .int a1] h K := by
  unfold pTN pT at k
  refine gk_ci_mk (x_mo_readOther (s_mo_isWord (d := d + 4) st.2.2.1 hw (fun z => zF (by decide) ?_) (fun z => zT rfl ?_)))
  · rw [if_pos (show (tkT s n).1 p = 100 + w from z)] at k
    have k : OC (pN (tkT s n) 0 hi u (nxp s n p)) (fun e => ∀ h', RCf h0 h' e → K (-1) h') (fun x => ∀ h', RC h0 h' s n x.1 C → K (nI x.2) h') := k
    refine s_rc_reads (d := d + 1) tm wr st (fun h' st' => ?_)
    have r3 := RTok_3 st'.2.2.1.2.2
    by_cases z1 : tK s n (nxp s n p) = 1
    · obtain ⟨e1, e2, e3⟩ := r3.1 z1
      refine zT e1 ?_
      rw [e2]
      refine pk_ne (tkV s n (nxp s n p)) u (fun y => ?_) (fun y => ?_)
      · refine s_mo_readNumber (d := d) (lo := 0) tm wr (by decide) h1 st' ?_
        have e : pN (tkT s n) 0 hi 10000 (nxp s n p) = pN (tkT s n) 0 hi u (nxp s n p) := by
          unfold pN
          rw [if_pos (show (tkT s n).1 (nxp s n p) = 1 from z1), if_pos (show (tkT s n).1 (nxp s n p) = 1 from z1)]
          have c1 : ¬ (tkT s n).2.1 (nxp s n p) = 10000 := fun y => by have : tkV s n (nxp s n p) = 10000 := y; omega
          have c2 : ¬ (tkT s n).2.1 (nxp s n p) = u := y
          by_cases b : 0 ≤ (tkT s n).2.1 (nxp s n p) ∧ (tkT s n).2.1 (nxp s n p) < hi
          · rw [if_pos ⟨b.1, b.2, c1⟩, if_pos ⟨b.1, b.2, c2⟩]
          · rw [if_neg (fun q => b ⟨q.1, q.2.1⟩), if_neg (fun q => b ⟨q.1, q.2.1⟩)]
        rw [e]
        exact k
      · have e : pN (tkT s n) 0 hi u (nxp s n p) = .error (2, nxp s n p) := by
          unfold pN
          rw [if_pos (show (tkT s n).1 (nxp s n p) = 1 from z1), if_neg (fun q => q.2.2 y)]
        rw [e] at k
        exact s_rc_errs (d := d + 4) (f := 2) st' (fun h' q' => k h' q')
    · refine zF (r3.2 z1) (s_mo_readNumber (d := d) (lo := 0) tm wr (by decide) h1 st' ?_)
      have e : pN (tkT s n) 0 hi 10000 (nxp s n p) = pN (tkT s n) 0 hi u (nxp s n p) := by
        unfold pN
        rw [if_neg (show ¬ (tkT s n).1 (nxp s n p) = 1 from z1), if_neg (show ¬ (tkT s n).1 (nxp s n p) = 1 from z1)]
      rw [e]
      exact k
  · rw [if_neg (show ¬ (tkT s n).1 p = 100 + w from z)] at k
    exact s_rc_errs (d := d + 4) (f := 1) st (fun h' q' => k h' q')
theorem bTN {τ : gTk} {k lo hi un q : Nat} {x : Nat × Nat} (o : okK τ n) (e : pTN τ k lo hi un q = .ok x) : lo ≤ x.2 ∧ x.2 < hi ∧ x.2 < 10000 ∧ ¬ x.2 = un := by
  obtain ⟨r, er, e⟩ := bind_ok e
  obtain ⟨-, -, -, a, b, c, f⟩ := bN o e
  exact ⟨a, b, c, f⟩
theorem s_mo_takesPassage {K : gk_H → Prop} {m v l : Nat} (hm : m < 36) (hv : v ≤ 99) (hl : l < 100) (e : h.2.1 128 (36 + m) = nI v) (k1 : (v = 0 ∨ l < v) → K (gk_ha h 128 (36 + m) (nI l))) (k0 : ¬ (v = 0 ∨ l < v) → K h) : gk_cv E (d + 1) jmo_takesPassage [.ref 112, .int (nI (36 + m)), .int (nI l)] h K := by
  have vm : vp_in (nI (36 + m)) 72 := vp_in_nI (by omega) (by decide)
  refine gk_cv_mk (x_mo_takesPassage ?_)
  unfold w_mo_takesPassage
  rw [nI_clamp (by omega), e]
  exact ⟨vm, pk_eq v 0 (fun q => ⟨vm, k1 (Or.inl q)⟩) (fun q => ⟨vm, pk_le v l (fun q2 => k0 (by omega)) (fun q2 => ⟨vm, k1 (Or.inr q2)⟩)⟩)⟩
theorem s_mo_readPassage {K : Int32 → gk_H → Prop} {a : Nat → Nat} (o : okK (tkT s n) n) (tm : TMs h0 n s) (wr : wordsR h0) (st : RPa h0 h s n p a) (kk : OC (psL (tkT s n) p a) (fun e => ∀ h', RQf 128 h0 h' e → K (-1) h') (fun x => ∀ h', RPa h0 h' s n x.1 x.2 → K 0 h')) : gk_ci E (d + 7) jmo_readPassage [.ref 112] h K := by
  obtain ⟨⟨mq, rc⟩, pI, ea⟩ := st
  have c8 : 127 < 128 := by decide
  have tm1 := TMs_MQd c8 mq tm
  have wr1 := wr_MQd c8 mq wr
  unfold psL at kk
  refine gk_ci_mk (x_mo_readPassage (s_mo_readTold (d := d) (w := 11) (lo := 0) (hi := 6) tm1 wr1 (by decide) (by decide) (hi_n (m := 5) rfl (by decide)) rc (OC_bi kk (fun e H h' q' => fe (zT rfl (H h' (RQ_f c8 mq q')))) (fun x ex H h1 r1 => ?_))))
  obtain ⟨a4, a5, a6, -⟩ := bTN o ex
  refine fe (zF (nI_m1 (by omega)) (s_mo_readOther (d := d) (w := 11) (u := x.2) (hi := 6) tm1 wr1 (by decide) a6 (hi_n (m := 5) rfl (by decide)) r1 (OC_bi H (fun e H h' q' => fe (zT rfl (H h' (RQ_f c8 mq q')))) (fun y ey H h2 r2 => ?_))))
  obtain ⟨b4, b5, b6, b7⟩ := bTN o ey
  refine fe (zF (nI_m1 (by omega)) (s_mo_readTold (d := d) (w := 16) (lo := 1) (hi := 100) tm1 wr1 (by decide) (by decide) (hi_n (m := 99) rfl (by decide)) r2 (OC_bi H (fun e H h' q' => fe (zT rfl (H h' (RQ_f c8 mq q')))) (fun z ez H h3 r3 => ?_))))
  obtain ⟨c4, c5, c6, -⟩ := bTN o ez
  have e1 : (36 : Int32) + 6 * nI x.2 + nI y.2 = nI (36 + (x.2 * 6 + y.2)) := by
    rw [show (6 : Int32) * nI x.2 = nI (6 * x.2) from pk_mul 6 x.2, show (36 : Int32) + nI (6 * x.2) = nI (36 + 6 * x.2) from nI_add 36 _, nI_add]; congr 1; omega
  have e2 : (36 : Int32) + 6 * nI y.2 + nI x.2 = nI (36 + (y.2 * 6 + x.2)) := by
    rw [show (6 : Int32) * nI y.2 = nI (6 * y.2) from pk_mul 6 y.2, show (36 : Int32) + nI (6 * y.2) = nI (36 + 6 * y.2) from nI_add 36 _, nI_add]; congr 1; omega
  refine fe (zF (nI_m1 (by omega)) ?_)
  rw [e1, e2]
  have m3 : MQd 128 h0 h3 := MQd_MD c8 mq r3.2.1
  have ea3 : ∀ i, i < 36 → h3.2.1 128 (36 + i) = nI (a i) := fun i hi => by rw [(r3.2.1.1 128 (by omega)).2.1]; exact ea i hi
  have sy := pI.1 x.2 y.2 a5 b5
  have hv := pI.2 (x.2 * 6 + y.2) (by omega)
  have fin : ∀ h5 : gk_H, MQd 128 h0 h5 → RC h5 h5 s n z.1 [] → (∀ i, i < 36 → h5.2.1 128 (36 + i) = nI (psA a x.2 y.2 z.2 i)) → gk_ci E (d + 6) jmo_readMark [.ref 112, .int (59 : Int32)] h5 (fun r_13 h_12 => gk_qi K (some (.int r_13)) h_12) := by
    intro h5 m5 r5 e5
    refine s_mo_readMark (d := d + 1) (c := 59) (TMs_MQd c8 m5 tm) (wr_MQd c8 m5 wr) (by decide) (by decide) r5 (OC_bi H (fun e H h' q' => H h' (RQ_f c8 m5 q')) (fun q eq H h6 r6 => H h6 ⟨⟨MQd_MD c8 m5 r6.2.1, RC_re r6⟩, psI_A a5 b5 c5 pI, fun i hi => ?_⟩))
    rw [(r6.2.1.1 128 (by omega)).2.1]; exact e5 i hi
  refine s_mo_takesPassage (d := d + 5) (m := x.2 * 6 + y.2) (by omega) hv c5 (ea3 _ (by omega)) (fun c => ?_) (fun c => ?_)
  · refine s_mo_takesPassage (d := d + 5) (m := y.2 * 6 + x.2) (v := a (x.2 * 6 + y.2)) (by omega) hv c5 ?_ (fun _ => ?_) (fun c' => absurd c c')
    · rw [OW_set, if_neg (by omega), ea3 _ (by omega), sy]
    · refine fin _ (MQd_ha c8 (by show 36 ≤ _; omega) (MQd_ha c8 (by show 36 ≤ _; omega) m3)) (RC_ha (by decide) (RC_ha (by decide) r3)) (fun i hi => ?_)
      rw [OW_set, OW_set]
      unfold psA
      by_cases q : i = y.2 * 6 + x.2
      · rw [if_pos (by omega), if_pos ⟨c, Or.inr q⟩]
      · by_cases q2 : i = x.2 * 6 + y.2
        · rw [if_neg (by omega), if_pos (by omega), if_pos ⟨c, Or.inl q2⟩]
        · rw [if_neg (by omega), if_neg (by omega), if_neg (fun y => y.2.elim q2 q)]; exact ea3 i hi
  · refine s_mo_takesPassage (d := d + 5) (m := y.2 * 6 + x.2) (v := a (x.2 * 6 + y.2)) (by omega) hv c5 ?_ (fun c' => absurd c' c) (fun _ => ?_)
    · rw [ea3 _ (by omega), sy]
    · refine fin h3 m3 (RC_re r3) (fun i hi => ?_)
      unfold psA
      rw [if_neg (fun y => c y.1)]; exact ea3 i hi
theorem s_mo_readVouch {K : Int32 → gk_H → Prop} {a : Nat → Int32} {pl : Nat} (o : okK (tkT s n) n) (tm : TMs h0 n s) (wr : wordsR h0) (hpl : pl ≤ 10) (e6 : h0.1 112 6 = nI pl) (st : RVo h0 h s n p a) (kk : OC (vcL (tkT s n) pl p a) (fun e => ∀ h', RQf 130 h0 h' e → K (-1) h') (fun x => ∀ h', RVo h0 h' s n x.1 x.2 → K 0 h')) : gk_ci E (d + 7) jmo_readVouch [.ref 112] h K := by
  obtain ⟨⟨mq, rc⟩, ea⟩ := st
  have c8 : 127 < 130 := by decide
  have tm1 := TMs_MQd c8 mq tm
  have wr1 := wr_MQd c8 mq wr
  have e6' : h.1 112 6 = nI pl := (mq.2.1 6 (by unfold mF; omega)).trans e6
  unfold vcL at kk
  refine gk_ci_mk (x_mo_readVouch ?_)
  unfold w_mo_readVouch
  rw [e6']
  refine s_mo_readTold (d := d) (w := 23) (lo := 0) (hi := pl) tm1 wr1 (by decide) (by decide) (hi_p (by omega)) rc (OC_bi kk (fun e H h' q' => fe (zT rfl (H h' (RQ_f c8 mq q')))) (fun x ex H h1 r1 => ?_))
  obtain ⟨a4, a5, a6, -⟩ := bTN o ex
  refine fe (zF (nI_m1 (by omega)) ?_)
  rw [r1.2.1.2.1 6 (by unfold mF; omega), e6']
  refine s_mo_readOther (d := d) (w := 24) (u := x.2) (hi := pl) tm1 wr1 (by decide) a6 (hi_p (by omega)) r1 (OC_bi H (fun e H h' q' => fe (zT rfl (H h' (RQ_f c8 mq q')))) (fun y ey H h2 r2 => ?_))
  obtain ⟨b4, b5, b6, b7⟩ := bTN o ey
  have e10 : (10 : Int32) + nI x.2 = nI (10 + x.2) := nI_add 10 x.2
  have vx : vp_in (nI (10 + x.2)) 20 := vp_in_nI (by omega) (by decide)
  have ea2 : ∀ i, i < 10 → h2.2.1 130 (10 + i) = a i := fun i hi => by rw [(r2.2.1.1 130 (by omega)).2.1]; exact ea i hi
  refine fe (zF (nI_m1 (by omega)) ?_)
  rw [e10, nI_clamp (by omega), ea2 x.2 (by omega)]
  refine ⟨vx, vx, ?_⟩
  have m5 : MQd 130 h0 (gk_ha h2 130 (10 + x.2) (a x.2 ||| ((1 : Int32) <<< (nI y.2 &&& 31)))) := MQd_ha c8 (by show 10 ≤ _; omega) (MQd_MD c8 mq r2.2.1)
  refine s_mo_readMark (d := d + 1) (c := 59) (TMs_MQd c8 m5 tm) (wr_MQd c8 m5 wr) (by decide) (by decide) (RC_ha (by decide) r2) (OC_bi H (fun e H h' q' => H h' (RQ_f c8 m5 q')) (fun q eq H h6 r6 => H h6 ⟨⟨MQd_MD c8 m5 r6.2.1, RC_re r6⟩, fun i hi => ?_⟩))
  rw [(r6.2.1.1 130 (by omega)).2.1, OW_set]
  show _ = vcA a x.2 y.2 i
  unfold vcA
  by_cases q : i = x.2
  · rw [if_pos (by omega), if_pos q, q]
  · rw [if_neg (by omega), if_neg q]; exact ea2 i hi
theorem s_mo_kindOfDeed {K : Int32 → gk_H → Prop} (rt : RTk h n s p) (k1 : ∀ q w, pW (tkT s n) p = .ok (q, w) → q = nxp s n p → w ≤ 4 → p < n → K (nI w) h) (k0 : pW (tkT s n) p = .error (1, p) → K (-1) h) : gk_ci E (d + 2) jmo_kindOfDeed [.ref 112] h K := by
  have hb := tK_lt s n p
  have hc := tK_c s n p
  have r2 := RTok_2 rt.2.2
  have no : ¬ (118 ≤ tK s n p ∧ tK s n p ≤ 120) → ¬ tK s n p = 110 → ¬ tK s n p = 122 → K (-1) h := fun h1 h2 h3 => k0 (by
    unfold pW
    rw [if_neg (show ¬ (118 ≤ (tkT s n).1 p ∧ (tkT s n).1 p ≤ 120) from h1), if_neg (show ¬ (tkT s n).1 p = 110 from h2), if_neg (show ¬ (tkT s n).1 p = 122 from h3)])
  have y3 : tK s n p = 110 → K 3 h := fun z => k1 (nxp s n p) 3 (by
    unfold pW
    rw [if_neg (show ¬ (118 ≤ (tkT s n).1 p ∧ (tkT s n).1 p ≤ 120) from fun y => by have : 118 ≤ tK s n p := y.1; omega), if_pos (show (tkT s n).1 p = 110 from z)]
    rfl) rfl (by decide) (by omega)
  have y4 : tK s n p = 122 → K 4 h := fun z => k1 (nxp s n p) 4 (by
    unfold pW
    rw [if_neg (show ¬ (118 ≤ (tkT s n).1 p ∧ (tkT s n).1 p ≤ 120) from fun y => by have : tK s n p ≤ 120 := y.2; omega), if_neg (show ¬ (tkT s n).1 p = 110 from fun y => by have : tK s n p = 110 := y; omega), if_pos (show (tkT s n).1 p = 122 from z)]
    rfl) rfl (by decide) (by omega)
  have yb : 118 ≤ tK s n p → tK s n p ≤ 120 → K (nI (tK s n p - 118)) h := fun z1 z2 => k1 (nxp s n p) (tK s n p - 118) (by
    unfold pW
    rw [if_pos (show 118 ≤ (tkT s n).1 p ∧ (tkT s n).1 p ≤ 120 from ⟨z1, z2⟩)]
    rfl) rfl (by omega) (by omega)
  refine gk_ci_mk (x_mo_kindOfDeed ?_)
  by_cases q : 100 ≤ tK s n p
  · obtain ⟨e1, e0, e2⟩ := r2.1 q
    refine zT e1 ?_
    rw [e2]
    by_cases z : 118 ≤ tK s n p ∧ tK s n p ≤ 120
    · refine s_in1 ⟨nI_le (a := 18) (by omega) (by omega), nI_le (b := 20) (by omega) (by decide)⟩ (yF (by decide) ?_)
      rw [e2, show nI (tK s n p - 100) - 18 = nI (tK s n p - 118) by rw [show nI (tK s n p - 100) - 18 = nI (tK s n p - 100 - 18) from pk_sub (b := 18) (by omega)]; congr 1]
      exact yb z.1 z.2
    · refine s_in0 (fun y => z ?_) (yT rfl (s_mo_isWord (d := d) (w := 10) rt (by decide) (fun z2 => yF (by decide) (y3 z2)) (fun z2 => yT rfl (s_mo_isWord (d := d) (w := 22) rt (by decide) (fun z3 => yF (by decide) (y4 z3)) (fun z3 => yT rfl (no z z2 z3))))))
      have y1 := (nI_leI (a := 18) (by decide) (by omega)).mp y.1
      have y2 := (nI_leI (b := 20) (by omega) (by decide)).mp y.2
      omega
  · exact zF (r2.2 (by omega)) (s_mo_isWord (d := d) (w := 10) rt (by decide) (fun z2 => by omega) (fun z2 => yT rfl (s_mo_isWord (d := d) (w := 22) rt (by decide) (fun z3 => by omega) (fun z3 => yT rfl (no (by omega) z2 z3)))))
theorem s_mo_readDeedMore {K : Int32 → gk_H → Prop} {w : Nat} (tm : TMs h0 n s) (wr : wordsR h0) (hw : w ≤ 4) (st : RC h0 h s n p C) (k : OC (pDt (tkT s n) w p) (fun e => ∀ h', RCf h0 h' e → K (-1) h') (fun x => ∀ h', RC h0 h' s n x.1 C → K (nI x.2) h')) : gk_ci E (d + 7) jmo_readDeedMore [.ref 112, .int (nI w)] h K := by
  unfold pDt at k
  refine gk_ci_mk (x_mo_readDeedMore (pk_ne w 2 (fun z => pk_ne w 3 (fun z2 => pk_ne w 4 (fun z3 => ?_) (fun z3 => ?_)) (fun z2 => ?_)) (fun z => ?_)))
  · rw [if_neg z, if_neg z2, if_neg z3] at k
    exact k h st
  · rw [if_neg z, if_neg z2, if_pos z3] at k
    exact s_mo_readNumber (d := d + 1) (lo := 0) tm wr (by decide) (hi_n (m := 7) rfl (by decide)) st k
  · rw [if_neg z, if_pos z2] at k
    exact s_mo_readNumber (d := d + 1) (lo := 0) tm wr (by decide) (hi_n (m := 9) rfl (by decide)) st k
  · rw [if_pos z] at k
    exact s_mo_readTold (d := d) (w := 21) (lo := 0) tm wr (by decide) (by decide) (hi_n (m := 5) rfl (by decide)) st k
theorem s_mo_readDeed {K : Int32 → gk_H → Prop} {L : List gDe} {pl k : Nat} (o : okK (tkT s n) n) (tm : TMs h0 n s) (wr : wordsR h0) (hpl : pl ≤ 10) (e6 : h0.1 112 6 = nI pl) (hk : L.length = k) (hk2 : k < 16) (st : RDi h0 h s n p L) (kk : OC (dyL (tkT s n) pl p L) (fun e => ∀ h', RQf 129 h0 h' e → K (-1) h') (fun x => ∀ h', RDi h0 h' s n x.1 x.2 → K 0 h')) : gk_ci E (d + 8) jmo_readDeed [.ref 112, .int (nI (64 + 4 * k))] h K := by
  obtain ⟨⟨mq, rc⟩, ea⟩ := st
  rw [hk] at ea
  have c8 : 127 < 129 := by decide
  have tm1 := TMs_MQd c8 mq tm
  have wr1 := wr_MQd c8 mq wr
  have v0 : vp_in (nI (64 + 4 * k)) 128 := vp_in_nI (by omega) (by decide)
  have v1 : vp_in (nI (64 + 4 * k + 1)) 128 := vp_in_nI (by omega) (by decide)
  have v2 : vp_in (nI (64 + 4 * k + 2)) 128 := vp_in_nI (by omega) (by decide)
  have v3 : vp_in (nI (64 + 4 * k + 3)) 128 := vp_in_nI (by omega) (by decide)
  have s1 : nI (64 + 4 * k) + 1 = nI (64 + 4 * k + 1) := nI_add _ 1
  have s2 : nI (64 + 4 * k) + 2 = nI (64 + 4 * k + 2) := nI_add _ 2
  have s3 : nI (64 + 4 * k) + 3 = nI (64 + 4 * k + 3) := nI_add _ 3
  have lo : loN 129 = 64 := rfl
  unfold dyL at kk
  refine gk_ci_mk (x_mo_readDeed ?_)
  unfold w_mo_readDeed
  rw [s1, s2, s3, nI_clamp (n := 64 + 4 * k) (by omega), nI_clamp (n := 64 + 4 * k + 1) (by omega), nI_clamp (n := 64 + 4 * k + 2) (by omega), nI_clamp (n := 64 + 4 * k + 3) (by omega)]
  refine s_mo_readTold (d := d + 1) (w := 17) (lo := 0) (hi := 1000) tm1 wr1 (by decide) (by decide) (hi_n (m := 999) rfl (by decide)) rc (OC_bi kk (fun e H h' q' => ⟨v0, fe ⟨v0, zT (by rw [OW_set, if_pos rfl]) (H _ ⟨MQd_ha c8 (by omega) (MQd_MD c8 mq q'.1), q'.2⟩)⟩⟩) (fun x ex H h1 r1 => ⟨v0, fe ⟨v0, ?_⟩⟩))
  obtain ⟨a4, a5, a6, -⟩ := bTN o ex
  obtain ⟨h3, eh3⟩ : ∃ u, u = gk_ha h1 129 (64 + 4 * k) (nI x.2) := ⟨_, rfl⟩
  rw [← eh3]
  have m3 : MQd 129 h0 h3 := by rw [eh3]; exact MQd_ha c8 (by omega) (MQd_MD c8 mq r1.2.1)
  have r3 : RC h3 h3 s n x.1 [] := by rw [eh3]; exact RC_ha (by decide) r1
  have g3 : ∀ i, h3.2.1 129 i = if i = 64 + 4 * k then nI x.2 else h.2.1 129 i := fun i => by rw [eh3, OW_set, (r1.2.1.1 129 (by omega)).2.1]
  refine zF (by rw [g3, if_pos rfl]; exact nI_m1 (by omega)) (s_mo_kindOfDeed (d := d + 5) r3.2.2.1 (fun q w ew eq hw hx => fe (zF (nI_m1 (by omega)) ?_)) (fun ew => fe (zT rfl ?_)))
  · rw [ew] at H
    have H : OC ((pN (tkT s n) 0 (if w = 3 then 6 else pl) 10000 q).bind (fun z => (pDt (tkT s n) w z.1).bind (fun v => (pT (tkT s n) 59 v.1).bind (fun q => (.ok (q, L ++ [(x.2, w, z.2, v.2)]) : pRe (Nat × List gDe)))))) (fun e => ∀ h', RQf 129 h0 h' e → K (-1) h') (fun x => ∀ h', RDi h0 h' s n x.1 x.2 → K 0 h') := H
    refine s_rc_reads (d := d + 3) (TMs_MQd c8 m3 tm) (wr_MQd c8 m3 wr) r3 (fun h7 r7 => ⟨v1, fe ?_⟩)
    rw [← eq] at r7
    obtain ⟨h8, eh8⟩ : ∃ u, u = gk_ha h7 129 (64 + 4 * k + 1) (nI w) := ⟨_, rfl⟩
    rw [← eh8]
    have m8 : MQd 129 h0 h8 := by rw [eh8]; exact MQd_ha c8 (by omega) (MQd_MD c8 m3 r7.2.1)
    have r8 : RC h8 h8 s n q [] := by rw [eh8]; exact RC_ha (by decide) r7
    have g8 : ∀ i, h8.2.1 129 i = if i = 64 + 4 * k + 1 then nI w else if i = 64 + 4 * k then nI x.2 else h.2.1 129 i := fun i => by rw [eh8, OW_set, (r7.2.1.1 129 (by omega)).2.1, g3]
    have tm8 := TMs_MQd c8 m8 tm
    have wr8 := wr_MQd c8 m8 wr
    have rest : ∀ (z : Nat × Nat) (h9 : gk_H), z.2 < 10 → RC h8 h9 s n z.1 [] → OC ((pDt (tkT s n) w z.1).bind (fun v => (pT (tkT s n) 59 v.1).bind (fun q => (.ok (q, L ++ [(x.2, w, z.2, v.2)]) : pRe (Nat × List gDe))))) (fun e => ∀ h', RQf 129 h0 h' e → K (-1) h') (fun x => ∀ h', RDi h0 h' s n x.1 x.2 → K 0 h') → (vp_in (nI (64 + 4 * k + 2)) 128 ∧ (∀ h_11 : gk_H, h_11 = gk_ha h9 129 (64 + 4 * k + 2) (nI z.2) → (vp_in (nI (64 + 4 * k + 2)) 128 ∧ ((¬ (h_11.2.1 129 (64 + 4 * k + 2)) = (-1 : Int32) → (gk_ci E (d + 7) jmo_readDeedMore [.ref 112, .int (nI w)] h_11 (fun r_13 h_12 => vp_in (nI (64 + 4 * k + 3)) 128 ∧ (∀ h_14 : gk_H, h_14 = gk_ha h_12 129 (64 + 4 * k + 3) r_13 → (vp_in (nI (64 + 4 * k + 3)) 128 ∧ ((¬ (h_14.2.1 129 (64 + 4 * k + 3)) = (-1 : Int32) → (gk_ci E (d + 7) jmo_readMark [.ref 112, .int (59 : Int32)] h_14 (fun r_16 h_15 => gk_qi K (some (.int r_16)) h_15))) ∧ ((h_14.2.1 129 (64 + 4 * k + 3)) = (-1 : Int32) → (gk_qi K (some (.int (-1 : Int32))) h_14)))))))) ∧ ((h_11.2.1 129 (64 + 4 * k + 2)) = (-1 : Int32) → (gk_qi K (some (.int (-1 : Int32))) h_11)))))) := by
      intro z h9 hz r9 k9
      refine ⟨v2, fe ⟨v2, ?_⟩⟩
      obtain ⟨h11, eh11⟩ : ∃ u, u = gk_ha h9 129 (64 + 4 * k + 2) (nI z.2) := ⟨_, rfl⟩
      rw [← eh11]
      have m11 : MQd 129 h0 h11 := by rw [eh11]; exact MQd_ha c8 (by omega) (MQd_MD c8 m8 r9.2.1)
      have r11 : RC h11 h11 s n z.1 [] := by rw [eh11]; exact RC_ha (by decide) r9
      have g11 : ∀ i, h11.2.1 129 i = if i = 64 + 4 * k + 2 then nI z.2 else if i = 64 + 4 * k + 1 then nI w else if i = 64 + 4 * k then nI x.2 else h.2.1 129 i := fun i => by rw [eh11, OW_set, (r9.2.1.1 129 (by omega)).2.1, g8]
      refine zF (by rw [g11, if_pos rfl]; exact nI_m1 (by omega)) (s_mo_readDeedMore (d := d) (TMs_MQd c8 m11 tm) (wr_MQd c8 m11 wr) hw r11 (OC_bi k9 (fun e H h' q' => ⟨v3, fe ⟨v3, zT (by rw [OW_set, if_pos rfl]) (H _ ⟨MQd_ha c8 (by omega) (MQd_MD c8 m11 q'.1), q'.2⟩)⟩⟩) (fun v ev H h12 r12 => ⟨v3, fe ⟨v3, ?_⟩⟩)))
      have bv := bDt o ev
      obtain ⟨h14, eh14⟩ : ∃ u, u = gk_ha h12 129 (64 + 4 * k + 3) (nI v.2) := ⟨_, rfl⟩
      rw [← eh14]
      have m14 : MQd 129 h0 h14 := by rw [eh14]; exact MQd_ha c8 (by omega) (MQd_MD c8 m11 r12.2.1)
      have r14 : RC h14 h14 s n v.1 [] := by rw [eh14]; exact RC_ha (by decide) r12
      have g14 : ∀ i, h14.2.1 129 i = if i = 64 + 4 * k + 3 then nI v.2 else if i = 64 + 4 * k + 2 then nI z.2 else if i = 64 + 4 * k + 1 then nI w else if i = 64 + 4 * k then nI x.2 else h.2.1 129 i := fun i => by rw [eh14, OW_set, (r12.2.1.1 129 (by omega)).2.1, g11]
      refine zF (by rw [g14, if_pos rfl]; exact nI_m1 (by omega)) (s_mo_readMark (d := d + 2) (c := 59) (TMs_MQd c8 m14 tm) (wr_MQd c8 m14 wr) (by decide) (by decide) r14 (OC_bi H (fun e H h' q' => H h' (RQ_f c8 m14 q')) (fun q eq H h6 r6 => H h6 ⟨⟨MQd_MD c8 m14 r6.2.1, RC_re r6⟩, fun i hi => ?_⟩)))
      have hi : i < 4 * (L ++ [(x.2, w, z.2, v.2)]).length := hi
      rw [List.length_append, hk] at hi
      have hi : i < 4 * (k + 1) := hi
      show _ = dF (L ++ [(x.2, w, z.2, v.2)]) i
      rw [(r6.2.1.1 129 (by omega)).2.1, g14]
      by_cases w3 : i = 4 * k + 3
      · rw [if_pos (by omega), dF_r (r := 3) (by decide) (by rw [hk]; exact w3)]; rfl
      · rw [if_neg (by omega)]
        by_cases w2 : i = 4 * k + 2
        · rw [if_pos (by omega), dF_r (r := 2) (by decide) (by rw [hk]; exact w2)]; rfl
        · rw [if_neg (by omega)]
          by_cases w1 : i = 4 * k + 1
          · rw [if_pos (by omega), dF_r (r := 1) (by decide) (by rw [hk]; exact w1)]; rfl
          · rw [if_neg (by omega)]
            by_cases w0 : i = 4 * k
            · rw [if_pos (by omega), dF_r (r := 0) (by decide) (by rw [hk]; exact w0)]; rfl
            · rw [if_neg (by omega), dF_l (by rw [hk]; omega)]
              exact ea i (by omega)
    have e68 : h8.1 112 6 = nI pl := (m8.2.1 6 (by unfold mF; omega)).trans e6
    rw [e68]
    refine pk_ne w 3 (fun w3 => ?_) (fun w3 => ?_)
    · rw [if_neg w3] at H
      refine s_mo_readNumber (d := d + 2) (lo := 0) (hi := pl) tm8 wr8 (by decide) (hi_p (by omega)) r8 (OC_bi H (fun e H h' q' => ⟨v2, fe ⟨v2, zT (by rw [OW_set, if_pos rfl]) (H _ ⟨MQd_ha c8 (by omega) (MQd_MD c8 m8 q'.1), q'.2⟩)⟩⟩) (fun z ez H h9 r9 => ?_))
      obtain ⟨-, -, -, -, z5, z6, -⟩ := bN o ez
      exact rest z h9 (by omega) r9 H
    · rw [if_pos w3] at H
      refine s_mo_readNumber (d := d + 2) (lo := 0) (hi := 6) tm8 wr8 (by decide) (hi_n (m := 5) rfl (by decide)) r8 (OC_bi H (fun e H h' q' => ⟨v2, fe ⟨v2, zT (by rw [OW_set, if_pos rfl]) (H _ ⟨MQd_ha c8 (by omega) (MQd_MD c8 m8 q'.1), q'.2⟩)⟩⟩) (fun z ez H h9 r9 => ?_))
      obtain ⟨-, -, -, -, z5, z6, -⟩ := bN o ez
      exact rest z h9 (by omega) r9 H
  · rw [ew] at H
    exact s_rc_errs (d := d + 6) (f := 1) r3 (fun h' q' => H h' (RQ_f c8 m3 q'))
theorem g_mo_pas {K : Int32 → gk_H → Prop} (o : okK (tkT s n) n) (tm : TMs h0 n s) (wr : wordsR h0) : ∀ (f k p : Nat) (a : Nat → Nat) (h : gk_H), k + f = 17 → k ≤ 16 → RPa h0 h s n p a → OC (pTx (tkT s n) (fun x => x == 111) (psL (tkT s n)) f k p a) (fun e => ∀ h', RQf 128 h0 h' e → K (-1) h') (fun x => ∀ h' p a, x.2 = a → RPa h0 h' s n p a → K (nI x.1) h') → g_mo_readPassages_26 E (d + 8) (gk_qi K) (nI k) h := by
  intro f
  induction f with
  | zero => intro k p a h hf hk; omega
  | succ f ih =>
    intro k p a h hf hk st kk
    have rc := st.1.2
    have mq := st.1.1
    have c8 : 127 < 128 := by decide
    have r0 := RTok_0 rc.2.2.1.2.2
    rw [pTx] at kk
    refine x_mo_readPassages_26 (s_mo_isWord (d := d + 7) (w := 11) rc.2.2.1 (by decide) (fun z => yF (by decide) ?_) (fun z => yT rfl ?_))
    · rw [if_neg (show ¬ (tkT s n).1 p = 0 from fun y => by have : tK s n p = 0 := y; omega), if_pos (show ((tkT s n).1 p == 111) = true from beq_iff_eq.mpr z)] at kk
      rw [nI_1]
      refine pk_ne k 16 (fun q => ?_) (fun q => ?_)
      · rw [if_pos (show k < 16 by omega)] at kk
        exact s_mo_readPassage (d := d + 1) o tm wr st (OC_bi kk (fun e H h' q' => zT rfl (H h' q')) (fun x ex H h' st' => zF (by decide) (fe (ih (k + 1) x.1 x.2 h' (by omega) (by omega) st' H))))
      · rw [if_neg (show ¬ k < 16 by omega)] at kk
        exact s_rc_errs (d := d + 7) (f := 3) rc (fun h' q' => kk h' (RQ_f c8 mq q'))
    · by_cases z0 : tK s n p = 0
      · rw [if_pos (show (tkT s n).1 p = 0 from z0)] at kk
        exact zT (r0.1 z0) (kk h p a rfl st)
      · rw [if_neg (show ¬ (tkT s n).1 p = 0 from z0), if_neg (show ¬ ((tkT s n).1 p == 111) = true from fun y => z (beq_iff_eq.mp y))] at kk
        exact zF (r0.2 z0) (s_rc_errs (d := d + 7) (f := 1) rc (fun h' q' => kk h' (RQ_f c8 mq q')))
theorem g_mo_vou {K : Int32 → gk_H → Prop} {pl : Nat} (o : okK (tkT s n) n) (tm : TMs h0 n s) (wr : wordsR h0) (hpl : pl ≤ 10) (e6 : h0.1 112 6 = nI pl) : ∀ (f k p : Nat) (a : Nat → Int32) (h : gk_H), k + f = 17 → k ≤ 16 → RVo h0 h s n p a → OC (pTx (tkT s n) (fun x => x == 123) (vcL (tkT s n) pl) f k p a) (fun e => ∀ h', RQf 130 h0 h' e → K (-1) h') (fun x => ∀ h' p a, x.2 = a → RVo h0 h' s n p a → K (nI x.1) h') → g_mo_readVouches_26 E (d + 8) (gk_qi K) (nI k) h := by
  intro f
  induction f with
  | zero => intro k p a h hf hk; omega
  | succ f ih =>
    intro k p a h hf hk st kk
    have rc := st.1.2
    have mq := st.1.1
    have c8 : 127 < 130 := by decide
    have r0 := RTok_0 rc.2.2.1.2.2
    rw [pTx] at kk
    refine x_mo_readVouches_26 (s_mo_isWord (d := d + 7) (w := 23) rc.2.2.1 (by decide) (fun z => yF (by decide) ?_) (fun z => yT rfl ?_))
    · rw [if_neg (show ¬ (tkT s n).1 p = 0 from fun y => by have : tK s n p = 0 := y; omega), if_pos (show ((tkT s n).1 p == 123) = true from beq_iff_eq.mpr z)] at kk
      rw [nI_1]
      refine pk_ne k 16 (fun q => ?_) (fun q => ?_)
      · rw [if_pos (show k < 16 by omega)] at kk
        exact s_mo_readVouch (d := d + 1) o tm wr hpl e6 st (OC_bi kk (fun e H h' q' => zT rfl (H h' q')) (fun x ex H h' st' => zF (by decide) (fe (ih (k + 1) x.1 x.2 h' (by omega) (by omega) st' H))))
      · rw [if_neg (show ¬ k < 16 by omega)] at kk
        exact s_rc_errs (d := d + 7) (f := 3) rc (fun h' q' => kk h' (RQ_f c8 mq q'))
    · by_cases z0 : tK s n p = 0
      · rw [if_pos (show (tkT s n).1 p = 0 from z0)] at kk
        exact zT (r0.1 z0) (kk h p a rfl st)
      · rw [if_neg (show ¬ (tkT s n).1 p = 0 from z0), if_neg (show ¬ ((tkT s n).1 p == 123) = true from fun y => z (beq_iff_eq.mp y))] at kk
        exact zF (r0.2 z0) (s_rc_errs (d := d + 7) (f := 1) rc (fun h' q' => kk h' (RQ_f c8 mq q')))
theorem g_mo_dia {K : Int32 → gk_H → Prop} {pl : Nat} (o : okK (tkT s n) n) (tm : TMs h0 n s) (wr : wordsR h0) (hpl : pl ≤ 10) (e6 : h0.1 112 6 = nI pl) : ∀ (f k p : Nat) (a : List gDe) (h : gk_H), k + f = 17 → k ≤ 16 → (RDi h0 h s n p a ∧ a.length = k) → OC (pTx (tkT s n) (fun x => x == 117) (dyL (tkT s n) pl) f k p a) (fun e => ∀ h', RQf 129 h0 h' e → K (-1) h') (fun x => ∀ h' p a, x.2 = a → (RDi h0 h' s n p a ∧ a.length = x.1) → K (nI x.1) h') → g_mo_readDiary_2 E (d + 8) (gk_qi K) (nI k) h := by
  intro f
  induction f with
  | zero => intro k p a h hf hk; omega
  | succ f ih =>
    intro k p a h hf hk st kk
    have rc := st.1.1.2
    have mq := st.1.1.1
    have c8 : 127 < 129 := by decide
    have r0 := RTok_0 rc.2.2.1.2.2
    rw [pTx] at kk
    refine x_mo_readDiary_2 (s_mo_isWord (d := d + 7) (w := 17) rc.2.2.1 (by decide) (fun z => yF (by decide) ?_) (fun z => yT rfl ?_))
    · rw [if_neg (show ¬ (tkT s n).1 p = 0 from fun y => by have : tK s n p = 0 := y; omega), if_pos (show ((tkT s n).1 p == 117) = true from beq_iff_eq.mpr z)] at kk
      rw [nI_1]
      refine pk_ne k 16 (fun q => ?_) (fun q => ?_)
      · rw [if_pos (show k < 16 by omega)] at kk
        rw [show (64 : Int32) + 4 * nI k = nI (64 + 4 * k) by rw [show (4 : Int32) * nI k = nI (4 * k) from pk_mul 4 k]; exact nI_add 64 _]
        refine s_mo_readDeed (d := d) o tm wr hpl e6 st.2 (by omega) st.1 (OC_bi kk (fun e H h' q' => zT rfl (H h' q')) (fun x ex H h' st' => zF (by decide) (fe (ih (k + 1) x.1 x.2 h' (by omega) (by omega) ⟨st', ?_⟩ H))))
        unfold dyL at ex
        obtain ⟨x1, e1, ex⟩ := bind_ok ex
        obtain ⟨x2, e2, ex⟩ := bind_ok ex
        obtain ⟨x3, e3, ex⟩ := bind_ok ex
        obtain ⟨x4, e4, ex⟩ := bind_ok ex
        obtain ⟨x5, e5, ex⟩ := bind_ok ex
        cases ex
        show (a ++ [_]).length = k + 1
        rw [List.length_append, st.2]; rfl
      · rw [if_neg (show ¬ k < 16 by omega)] at kk
        exact s_rc_errs (d := d + 7) (f := 3) rc (fun h' q' => kk h' (RQ_f c8 mq q'))
    · by_cases z0 : tK s n p = 0
      · rw [if_pos (show (tkT s n).1 p = 0 from z0)] at kk
        exact zT (r0.1 z0) (kk h p a rfl st)
      · rw [if_neg (show ¬ (tkT s n).1 p = 0 from z0), if_neg (show ¬ ((tkT s n).1 p == 117) = true from fun y => z (beq_iff_eq.mp y))] at kk
        exact zF (r0.2 z0) (s_rc_errs (d := d + 7) (f := 1) rc (fun h' q' => kk h' (RQ_f c8 mq q')))
end OTM
