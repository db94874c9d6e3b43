/-! text: the class -/
def S_tc2 (k : Nat) : Prop := (8 ≤ k ∧ k ≤ 18) ∨ k = 20 ∨ (58 ≤ k ∧ k ≤ 75 ∧ ¬ k = 59)
/-- from h the class came to h1: fault f0 f1, texts T, b: its past forgotten -/
def Cx (h h1 : gk_H) (f0 f1 : Int32) (b : Bool) (T : gT) : Prop := fr S_tc2 h h1 ∧ h1.1 58 4 = 0 ∧ (h1.1 63 2 = f0 ∧ h1.1 63 3 = f1) ∧ (b = false → eqc h h1 20) ∧ (b = true → h1.1 20 1 = h.1 20 1 ∧ h1.1 20 2 = 0) ∧ CT h1 7 19 T
theorem PF_g {h h' : gk_H} (p : PFx h h') : fr (fun k => 58 ≤ k ∧ k ≤ 75 ∧ ¬ k = 59) h (gk_hf h' 58 4 0) := fr_tr p.1 (fr_hf (by omega))
theorem Cx_e {h h' : gk_H} {e : Nat × Nat} {T : gT} (p : PFx h h') (c : CFt h' e) (ct : CT h 7 19 T) : Cx h (gk_hf h' 58 4 0) (nI e.1) (nI e.2) false T := by
  have g := PF_g p
  refine ⟨fr_mo g (fun k q => by unfold S_tc2; omega), ?_, ⟨?_, ?_⟩, fun _ => g 20 (by omega), fun q => (by cases q), CT_fr g (fun k h1 h2 q => by omega) ct⟩
  · rw [hf_f, if_pos ⟨rfl, rfl⟩]
  · rw [hf_f, if_neg (by decide)]; exact c.1
  · rw [hf_f, if_neg (by decide)]; exact c.2
theorem Cx_o {h h' h'' : gk_H} {T : gT} (p : PFx h h') (c : CF0 h') (f : fr (fun k => 8 ≤ k ∧ k ≤ 18) (gk_hf h' 58 4 0) h'') (ct : CT h'' 7 19 T) : Cx h h'' 0 (-1) false T := by
  have g := PF_g p
  refine ⟨fr_tr (fr_mo g (fun k q => by unfold S_tc2; omega)) (fr_mo f (fun k q => by unfold S_tc2; omega)), ?_, ⟨?_, ?_⟩, fun _ => ⟨(f 20 (by omega)).1.trans (g 20 (by omega)).1, (f 20 (by omega)).2.1.trans (g 20 (by omega)).2.1, (f 20 (by omega)).2.2.trans (g 20 (by omega)).2.2⟩, fun q => (by cases q), ct⟩
  · rw [(f 58 (by omega)).1, hf_f, if_pos ⟨rfl, rfl⟩]
  · rw [(f 63 (by omega)).1, hf_f, if_neg (by decide)]; exact c.1
  · rw [(f 63 (by omega)).1, hf_f, if_neg (by decide)]; exact c.2
theorem Cx_f {h h' h'' : gk_H} {T : gT} (p : PFx h h') (c : CF0 h') (f : fr (fun k => 8 ≤ k ∧ k ≤ 18) (gk_hf (gk_hf h' 58 4 0) 20 2 0) h'') (ct : CT h'' 7 19 T) : Cx h h'' 0 (-1) true T := by
  have g := PF_g p
  refine ⟨fr_tr (fr_mo g (fun k q => by unfold S_tc2; omega)) (fr_tr (fr_hf (by unfold S_tc2; omega)) (fr_mo f (fun k q => by unfold S_tc2; omega))), ?_, ⟨?_, ?_⟩, fun q => (by cases q), fun _ => ⟨?_, ?_⟩, ct⟩
  · rw [(f 58 (by omega)).1, hf_f, if_neg (by decide), hf_f, if_pos ⟨rfl, rfl⟩]
  · rw [(f 63 (by omega)).1, hf_f, if_neg (by decide), hf_f, if_neg (by decide)]; exact c.1
  · rw [(f 63 (by omega)).1, hf_f, if_neg (by decide), hf_f, if_neg (by decide)]; exact c.2
  · rw [(f 20 (by omega)).1, hf_f, if_neg (by decide), (g 20 (by omega)).1]
  · rw [(f 20 (by omega)).1, hf_f, if_pos ⟨rfl, rfl⟩]
def cLw (h : gk_H) (L : List gLn) : Prop := cLaw (h.1 8 0) (h.1 8 1) (h.2.1 9) (h.2.1 10) (h.2.1 11) (h.2.1 12) (h.2.1 13) (h.2.1 14) L
theorem cLw_eq {h h'' : gk_H} {L : List gLn} (Q : ∀ k, 8 ≤ k → k ≤ 14 → h''.1 k = h.1 k ∧ h''.2.1 k = h.2.1 k) (c : cLw h L) : cLw h'' L := by
  unfold cLw at *
  rw [(Q 8 (by decide) (by decide)).1, (Q 9 (by decide) (by decide)).2, (Q 10 (by decide) (by decide)).2, (Q 11 (by decide) (by decide)).2, (Q 12 (by decide) (by decide)).2, (Q 13 (by decide) (by decide)).2, (Q 14 (by decide) (by decide)).2]
  exact c
theorem PF_q {S : Nat → Prop} {h h' h'' : gk_H} (p : PFx h h') (f : fr S (gk_hf h' 58 4 0) h'') : ∀ k, 8 ≤ k → k ≤ 19 → ¬ S k → h''.1 k = h.1 k ∧ h''.2.1 k = h.2.1 k := fun k h1 h2 hs => ⟨(f k hs).1.trans (PF_g p k (by omega)).1, (f k hs).2.1.trans (PF_g p k (by omega)).2.1⟩
theorem PF_q2 {S : Nat → Prop} {h h' h'' : gk_H} (p : PFx h h') (f : fr S (gk_hf (gk_hf h' 58 4 0) 20 2 0) h'') : ∀ k, 8 ≤ k → k ≤ 19 → ¬ S k → h''.1 k = h.1 k ∧ h''.2.1 k = h.2.1 k := fun k h1 h2 hs => by
  have a : fr (fun k => k = 20) (gk_hf h' 58 4 0) (gk_hf (gk_hf h' 58 4 0) 20 2 0) := fr_hf rfl
  exact ⟨((f k hs).1.trans (a k (by omega)).1).trans (PF_g p k (by omega)).1, ((f k hs).2.1.trans (a k (by omega)).2.1).trans (PF_g p k (by omega)).2.1⟩
section CTX
variable {E : gk_E} {d : Nat} {h : gk_H} {n pl : Nat} {s : Nat → Nat} {T : gT} {K : Int32 → gk_H → Prop}
theorem c_text1 (o : okK (tkT s n) n) (tc : TCs h n s) (ew : h.1 1 0 = nI pl) (ct : CT h 7 19 T) (k : OC (pTx (tkT s n) (fun x => x == 111) (psL (tkT s n)) 17 0 (pos s n 0) (fun _ => 0)) (fun e => ∀ h1, Cx h h1 (nI e.1) (nI e.2) false T → K (-1) h1) (fun x => ∀ h1, Cx h h1 0 (-1) false (tP T x.1 x.2) → K (nI x.1) h1)) : gk_ci E (d + 24) jdp_text [.ref 0, .int (1 : Int32)] h K := by
  refine gk_ci_mk (x_dp_text ?_)
  unfold w_dp_text
  rw [ew]
  refine s_pa_parse1 (d := d) o tc (OC_mo k (fun e H h' p c => fe (zT rfl (H _ (Cx_e p c ct)))) (fun x ex H h' p c0 pI ea ek => fe (zF (by decide) (zF (by decide) ?_))))
  refine s_tx_copy1_7_64 (d := d + 20) (fun h'' f a1 e1 b1 => ?_)
  refine gk_ci_mk (x_tx_count_7 (zF (by decide) (yF (by decide) (yF (by decide) ⟨vpi (by decide), ?_⟩))))
  have a1 : h''.2.1 15 1 = nI x.1 := a1.trans ek
  rw [show (1 : Int32).toNatClampNeg = 1 by decide, a1]
  refine H h'' (Cx_o p c0 (fr_mo f (fun k q => by omega)) ?_)
  obtain ⟨⟨t1, t2, t3⟩, cp, cd, cv, cl, cb⟩ := ct
  have Q := PF_q p f
  have g15 := (PF_g p 15 (by omega)).2.1
  refine ⟨⟨a1, ?_, ?_⟩, fun k hk => (b1 k hk).trans (ea k hk), fun k hk => ?_, fun k hk => ?_, ?_, fun k hk => ?_⟩
  · show h''.2.1 15 2 = _
    rw [e1 2 (by decide), g15]; exact t2
  · show h''.2.1 15 3 = _
    rw [e1 3 (by decide), g15]; exact t3
  · show h''.2.1 17 k = _
    rw [(Q 17 (by decide) (by decide) (by omega)).2]; exact cd k hk
  · show h''.2.1 18 k = _
    rw [(Q 18 (by decide) (by decide) (by omega)).2]; exact cv k hk
  · exact cLw_eq (h := h) (fun k h1 h2 => Q k h1 (by omega) (by omega)) cl
  · rw [(Q 19 (by decide) (by decide) (by omega)).2]; exact cb k hk
theorem c_text2 (hpl : pl ≤ 10) (o : okK (tkT s n) n) (tc : TCs h n s) (ew : h.1 1 0 = nI pl) (ct : CT h 7 19 T) (k : OC (pTx (tkT s n) (fun x => x == 117) (dyL (tkT s n) pl) 17 0 (pos s n 0) []) (fun e => ∀ h1, Cx h h1 (nI e.1) (nI e.2) false T → K (-1) h1) (fun x => ∀ h1, Cx h h1 0 (-1) true (tD T x.2) → K (nI x.1) h1)) : gk_ci E (d + 24) jdp_text [.ref 0, .int (2 : Int32)] h K := by
  refine gk_ci_mk (x_dp_text ?_)
  unfold w_dp_text
  rw [ew]
  refine s_pa_parse2 (d := d) hpl o tc (OC_mo k (fun e H h' p c => fe (zT rfl (H _ (Cx_e p c ct)))) (fun x ex H h' p c0 eL ea ek => fe (zF (by decide) (zT rfl ?_))))
  refine gk_cv_mk (x_ps_forget ?_)
  show gk_cv E (d + 23) jtx_copyOne [.ref 7, .int (2 : Int32), .ref 64] (gk_hf (gk_hf h' 58 4 0) 20 2 0) _
  refine s_tx_copy2_7_64 (d := d + 20) (fun h'' f a1 e1 b1 => ?_)
  refine gk_ci_mk (x_tx_count_7 (zF (by decide) (yF (by decide) (yF (by decide) ⟨vpi (by decide), ?_⟩))))
  have a1 : h''.2.1 15 2 = nI x.1 := a1.trans ek
  rw [show (2 : Int32).toNatClampNeg = 2 by decide, a1]
  refine H h'' (Cx_f p c0 (fr_mo f (fun k q => by omega)) ?_)
  obtain ⟨-, i16⟩ := dia_I hpl o ex
  obtain ⟨⟨t1, t2, t3⟩, cp, cd, cv, cl, cb⟩ := ct
  have Q := PF_q2 p f
  have g15 := (PF_g p 15 (by omega)).2.1
  refine ⟨⟨?_, ?_, ?_⟩, fun k hk => ?_, fun k hk => ?_, fun k hk => ?_, ?_, fun k hk => ?_⟩
  · show h''.2.1 15 1 = _
    rw [e1 1 (by decide)]
    show (gk_hf h' 58 4 0).2.1 15 1 = _
    rw [g15]; exact t1
  · show h''.2.1 15 2 = nI x.2.length
    rw [a1, eL]
  · show h''.2.1 15 3 = _
    rw [e1 3 (by decide)]
    show (gk_hf h' 58 4 0).2.1 15 3 = _
    rw [g15]; exact t3
  · show h''.2.1 16 k = _
    rw [(Q 16 (by decide) (by decide) (by omega)).2]; exact cp k hk
  · have hk : k < 4 * x.2.length := hk
    exact (b1 k (by omega)).trans (ea k (by omega))
  · show h''.2.1 18 k = _
    rw [(Q 18 (by decide) (by decide) (by omega)).2]; exact cv k hk
  · exact cLw_eq (h := h) (fun k h1 h2 => Q k h1 (by omega) (by omega)) cl
  · rw [(Q 19 (by decide) (by decide) (by omega)).2]; exact cb k hk
theorem c_text3 (hpl : pl ≤ 10) (o : okK (tkT s n) n) (tc : TCs h n s) (ew : h.1 1 0 = nI pl) (ct : CT h 7 19 T) (k : OC (pTx (tkT s n) (fun x => x == 123) (vcL (tkT s n) pl) 17 0 (pos s n 0) (fun _ => 0)) (fun e => ∀ h1, Cx h h1 (nI e.1) (nI e.2) false T → K (-1) h1) (fun x => ∀ h1, Cx h h1 0 (-1) false (tV T x.1 x.2) → K (nI x.1) h1)) : gk_ci E (d + 24) jdp_text [.ref 0, .int (3 : Int32)] h K := by
  refine gk_ci_mk (x_dp_text ?_)
  unfold w_dp_text
  rw [ew]
  refine s_pa_parse3 (d := d) hpl o tc (OC_mo k (fun e H h' p c => fe (zT rfl (H _ (Cx_e p c ct)))) (fun x ex H h' p c0 ea ek => fe (zF (by decide) (zF (by decide) ?_))))
  refine s_tx_copy3_7_64 (d := d + 20) (fun h'' f a1 e1 b1 => ?_)
  refine gk_ci_mk (x_tx_count_7 (zF (by decide) (yF (by decide) (yF (by decide) ⟨vpi (by decide), ?_⟩))))
  have a1 : h''.2.1 15 3 = nI x.1 := a1.trans ek
  rw [show (3 : Int32).toNatClampNeg = 3 by decide, a1]
  refine H h'' (Cx_o p c0 (fr_mo f (fun k q => by omega)) ?_)
  obtain ⟨⟨t1, t2, t3⟩, cp, cd, cv, cl, cb⟩ := ct
  have Q := PF_q p f
  have g15 := (PF_g p 15 (by omega)).2.1
  refine ⟨⟨?_, ?_, a1⟩, fun k hk => ?_, fun k hk => ?_, fun k hk => (b1 k hk).trans (ea k hk), ?_, fun k hk => ?_⟩
  · show h''.2.1 15 1 = _
    rw [e1 1 (by decide), g15]; exact t1
  · show h''.2.1 15 2 = _
    rw [e1 2 (by decide), g15]; exact t2
  · show h''.2.1 16 k = _
    rw [(Q 16 (by decide) (by decide) (by omega)).2]; exact cp k hk
  · show h''.2.1 17 k = _
    rw [(Q 17 (by decide) (by decide) (by omega)).2]; exact cd k hk
  · exact cLw_eq (h := h) (fun k h1 h2 => Q k h1 (by omega) (by omega)) cl
  · rw [(Q 19 (by decide) (by decide) (by omega)).2]; exact cb k hk
theorem c_text0 (o : okK (tkT s n) n) (tc : TCs h n s) (ew : h.1 1 0 = nI pl) (ct : CT h 7 19 T) (k : OC (pTx (tkT s n) begL (lwL (tkT s n)) 17 0 (pos s n 0) ([], [])) (fun e => ∀ h1, Cx h h1 (nI e.1) (nI e.2) false T → K (-1) h1) (fun x => (X x.2.2).length ≤ 400 → ∀ h1, Cx h h1 0 (-1) false (tW T (x.2.1.map lnOf)) → K (nI x.1) h1)) : gk_ci E (d + 24) jdp_text [.ref 0, .int (0 : Int32)] h K := by
  refine gk_ci_mk (x_dp_text ?_)
  unfold w_dp_text
  rw [ew]
  refine s_pa_parse0 (d := d) o tc (OC_mo k (fun e H h' p c => fe (zT rfl (H _ (Cx_e p c ct)))) (fun x ex H h' p c0 co ek ln eL x4 => fe (zF (by decide) (zF (by decide) ?_))))
  obtain ⟨⟨-, i2⟩, i16⟩ := law_I o ex
  have hc := X_len x.2.2
  have g1 : ∀ f, (gk_hf h' 58 4 0).1 65 f = h'.1 65 f := fun f => by rw [hf_f, if_neg (by omega)]
  refine s_tx_copy0_7_64 (d := d + 20) (u := x.2.2.length) (by omega) ((g1 1).trans co.1) (fun h'' f lc e1 => ?_)
  obtain ⟨⟨la, lb⟩, l3, l4⟩ := lc
  have a0 : h''.1 8 0 = nI x.2.1.length := la.trans ((g1 0).trans ek)
  refine gk_ci_mk (x_tx_count_7 (zT rfl ?_))
  rw [a0, eL]
  refine H x4 h'' (Cx_o p c0 (fr_mo f (fun k q => by omega)) ?_)
  obtain ⟨⟨t1, t2, t3⟩, cp, cd, cv, cl, cb⟩ := ct
  have Q := PF_q p f
  have g15 := (PF_g p 15 (by omega)).2.1
  refine ⟨⟨?_, ?_, ?_⟩, fun k hk => ?_, fun k hk => ?_, fun k hk => ?_, ?_, fun k hk => ?_⟩
  · show h''.2.1 15 1 = _
    rw [e1 1 (by decide), g15]; exact t1
  · show h''.2.1 15 2 = _
    rw [e1 2 (by decide), g15]; exact t2
  · show h''.2.1 15 3 = _
    rw [e1 3 (by decide), g15]; exact t3
  · show h''.2.1 16 k = _
    rw [(Q 16 (by decide) (by decide) (by omega)).2]; exact cp k hk
  · show h''.2.1 17 k = _
    rw [(Q 17 (by decide) (by decide) (by omega)).2]; exact cd k hk
  · show h''.2.1 18 k = _
    rw [(Q 18 (by decide) (by decide) (by omega)).2]; exact cv k hk
  · refine cLaw_mk (c := x.2.2) (by omega) (by omega) i2 a0 (lb.trans ((g1 1).trans co.1)) (fun i y hy => ?_) (fun l e he => ?_)
    · obtain ⟨hi, -⟩ := List.getElem?_eq_some_iff.mp hy
      exact ⟨(l4 i hi).1.trans (co.2 i y hy).1, (l4 i hi).2.trans (co.2 i y hy).2⟩
    · obtain ⟨hl, -⟩ := List.getElem?_eq_some_iff.mp he
      obtain ⟨w1, w2, w3, w4⟩ := l3 l (by omega)
      obtain ⟨v1, v2, v3, v4⟩ := ln l e he
      exact ⟨w1.trans v1, w2.trans v2, w3.trans v3, w4.trans v4⟩
  · rw [(Q 19 (by decide) (by decide) (by omega)).2]; exact cb k hk
/-- a kind that there isn't -/
theorem c_parseN {a0 a1 : Int32} (q : ¬ ((0 : Int32) ≤ a0 ∧ a0 ≤ 3)) (k : K 0 (gk_hf (gk_hf h 63 2 0) 63 3 (-1))) : gk_ci E (d + 23) jpa_parse [.ref 63, .int a0, .int a1] h K := by
  refine gk_ci_mk (x_pa_parse (fe (fe ⟨fun _ => ⟨Or.inl rfl, k⟩, fun z => ⟨fun y => absurd ⟨?_, ?_⟩ q, fun _ => ⟨Or.inl rfl, k⟩⟩⟩)))
  · exact Int32.not_lt.mp z
  · rw [Int32.le_iff_toInt_le]
    rw [Int32.lt_iff_toInt_lt] at y
    have e4 : (4 : Int32).toInt = 4 := by decide
    have e3 : (3 : Int32).toInt = 3 := by decide
    omega
theorem c_textN {a0 : Int32} (q : ¬ ((0 : Int32) ≤ a0 ∧ a0 ≤ 3)) (ct : CT h 7 19 T) (k : ∀ h1, Cx h h1 0 (-1) false T → K (-1) h1) : gk_ci E (d + 24) jdp_text [.ref 0, .int a0] h K := by
  refine gk_ci_mk (x_dp_text ?_)
  unfold w_dp_text
  have F : fr (fun k => 58 ≤ k ∧ k ≤ 75 ∧ ¬ k = 59) h (gk_hf (gk_hf h 63 2 0) 63 3 (-1)) := fr_tr (fr_hf (by omega)) (fr_hf (by omega))
  have P : PFx h (gk_hf (gk_hf h 63 2 0) 63 3 (-1)) := ⟨F, by rw [hf_f, if_neg (by decide), hf_f, if_neg (by decide)]⟩
  refine c_parseN (d := d) q (fe (zT rfl (k _ ?_)))
  have g := PF_g P
  refine ⟨fr_mo g (fun k q => by unfold S_tc2; omega), ?_, ⟨?_, ?_⟩, fun _ => g 20 (by omega), fun q => (by cases q), CT_fr g (fun k h1 h2 q => by omega) ct⟩
  · rw [hf_f, if_pos ⟨rfl, rfl⟩]
  · rw [hf_f, if_neg (by decide), hf_f, if_neg (by decide), hf_f, if_pos ⟨rfl, rfl⟩]
  · rw [hf_f, if_neg (by decide), hf_f, if_pos ⟨rfl, rfl⟩]
end CTX
