/-! text: both sides together -/
def Iv (h : gk_H) (N : Nat) (T : gT) : Prop := ∃ (c : Int32 × (Nat → Int32)) (f n : Nat) (ws : Nat → gk_WV) (rs : Nat → Nat → Int32), (cU h f n ws ∧ mU h n rs ∧ (∀ i, i < n → wRel goodW c (ws i) (rs i)) ∧ wRel goodW c (wv h 1) (rv h 113 0)) ∧ ((N ≤ 10 ∧ c.1 = nI N ∧ h.1 112 6 = nI N) ∧ (∀ p, p < 10 → h.2.1 116 p = c.2 p) ∧ okT N T ∧ CT h 7 19 T ∧ MTl h T) ∧ tapeR h ∧ h.1 112 5 = 0 ∧ wordsR h ∧ imgR h
theorem Iv_of {h : gk_H} (I : InvX h) : ∃ N T, Iv h N T := by
  obtain ⟨c, f, n, ws, rs, hc, hm, hr, hw, ⟨N, T, l1, l2, l3, l4, l5⟩, t, -, i5, wr, im⟩ := I
  exact ⟨N, T, c, f, n, ws, rs, ⟨hc, hm, hr, hw⟩, ⟨l1, l2, l3, l4, l5⟩, t, i5, wr, im⟩
theorem Iv_text {h h1 h2 : gk_H} {N : Nat} {T T' : gT} {f0 f1 : Int32} {b : Bool} (I : Iv h N T) (c : Cx h h1 f0 f1 b T') (m : Mx h1 h2 f0 f1 b T') (ok : okT N T') : InvX h2 := by
  obtain ⟨c1, c2, ⟨c3, c4⟩, c5, c6, c7⟩ := c
  obtain ⟨m1, m2, ⟨m3, m4⟩, ⟨m5, m6, m7⟩, m8, m9, m10⟩ := m
  obtain ⟨cc, f, n, ws, rs, ⟨hc, hm, hr, hw⟩, ⟨l1, l2, l3, l4, l5⟩, t, i5, wr, im⟩ := I
  have F : fr (fun k => S_tc2 k ∨ S_tm2 k) h h2 := fr_tr (fr_mo c1 (fun k q => Or.inl q)) (fr_mo m1 (fun k q => Or.inr q))
  have G : ∀ k, ¬ ((8 ≤ k ∧ k ≤ 18) ∨ k = 20 ∨ (58 ≤ k ∧ k ≤ 75 ∧ ¬ k = 59) ∨ k = 112 ∨ (120 ≤ k ∧ k ≤ 130)) → eqc h h2 k := fun k hk => F k (fun q => hk (by unfold S_tc2 S_tm2 at q; omega))
  have e112 : h1.1 112 = h.1 112 := (c1 112 (by unfold S_tc2; omega)).1
  have e58 : h2.1 58 = h1.1 58 := (m1 58 (by unfold S_tm2; omega)).1
  have e63 : h2.1 63 = h1.1 63 := (m1 63 (by unfold S_tm2; omega)).1
  have ew : wv h2 1 = wv h 1 := wv_fr F (fun i hi q => by unfold S_tc2 S_tm2 at q; omega)
  have er : rv h2 113 0 = rv h 113 0 := rv_eq fun j _ => by rw [(G 113 (by omega)).2.1]
  have hw2 : wRel goodW cc (wv h2 1) (rv h2 113 0) := by rw [ew, er]; exact hw
  have rest : RestX cc h2 := by
    refine ⟨⟨N, T', ⟨l1.1, l1.2.1, by rw [m6, e112]; exact l1.2.2⟩, fun p hp => by rw [(G 116 (by omega)).2.1]; exact l2 p hp, ok, CT_fr m1 (fun k q1 q2 q => by unfold S_tm2 at q; omega) c7, m10⟩, ⟨0, by decide, by rw [e58]; exact c2, m2, fun k hk => absurd hk (Nat.not_lt_zero _)⟩, ⟨by rw [e63, c3, m3], by rw [e63, c4, m4]⟩, by rw [m5, e112]; exact i5, ?_, img_eq (G 0 (by omega)).1 (by rw [m7, e112]) (fun k q1 q2 => G k (by omega)) (G 144 (by omega)).2.1 im⟩
    unfold wordsR
    rw [(G 119 (by omega)).2.1]; exact wr
  cases b with
  | false =>
    have g20 : eqc h h2 20 := by
      have a := c5 rfl
      have z := m1 20 (by unfold S_tm2; omega)
      exact ⟨z.1.trans a.1, z.2.1.trans a.2.1, z.2.2.trans a.2.2⟩
    have F' : fr (fun k => ¬ S_ring k) h h2 := fun k hk => by
      have hk : S_ring k := Classical.byContradiction hk
      rcases hk with q | q
      · rw [q]; exact g20
      · exact G k (by omega)
    exact ⟨cc, f, n, ws, rs, cU_fr (fun k hk q => q hk) F' hc, mU_of (by rw [m8 rfl, e112]) (G 114 (by omega)).2.1 hm, hr, hw2, rest⟩
  | true =>
    have e20 : h2.1 20 = h1.1 20 := (m1 20 (by unfold S_tm2; omega)).1
    obtain ⟨a1, a2⟩ := c6 rfl
    exact inv_new hc.1 (by rw [e20, a1]; exact hc.2.2.1) ((congrFun e20 2).trans a2) (m9 rfl) hw2 rest
/-- one kind of text -/
theorem lc_kind {E : gk_E} {D : Nat} {h : gk_H} {N : Nat} {T : gT} {α : Type} {R : pRe (Nat × α)} {TT : Nat × α → gT} {b : Bool} {a0 : Int32} (I : Iv h N T) (ok : okT N T) (hc : ∀ K : Int32 → gk_H → Prop, OC R (fun e => ∀ h1, Cx h h1 (nI e.1) (nI e.2) false T → K (-1) h1) (fun x => ∀ h1, Cx h h1 0 (-1) b (TT x) → K (nI x.1) h1) → gk_ci E D jdp_text [.ref 0, .int a0] h K) (hm : ∀ h1 (K : Int32 → gk_H → Prop), fr S_tc2 h h1 → OC R (fun e => ∀ h2, Mx h1 h2 (nI e.1) (nI e.2) false T → K (-1) h2) (fun x => ∀ h2, Mx h1 h2 0 (-1) b (TT x) → K (nI x.1) h2) → gk_ci E D jmo_text [.ref 112, .int a0] h1 K) (hok : ∀ x, R = .ok x → okT N (TT x)) : ∃ Mid : Int32 → gk_H → Prop, (∀ K1 : Int32 → gk_H → Prop, (∀ r h1, Mid r h1 → K1 r h1) → gk_ci E D jdp_text [.ref 0, .int a0] h K1) ∧ ∀ r h1, Mid r h1 → ∀ K2 : Int32 → gk_H → Prop, (∀ h2, InvX h2 → K2 r h2) → gk_ci E D jmo_text [.ref 112, .int a0] h1 K2 := by
  cases hR : R with
  | error e =>
    rw [hR] at hc hm
    refine ⟨fun r h1 => r = -1 ∧ Cx h h1 (nI e.1) (nI e.2) false T, fun K1 k => hc K1 (fun h1 q => k _ h1 ⟨rfl, q⟩), fun r h1 md K2 k => ?_⟩
    obtain ⟨er, q⟩ := md
    rw [er] at k
    exact hm h1 K2 q.1 (fun h2 z => k h2 (Iv_text I q z ok))
  | ok x =>
    have okx := hok x hR
    rw [hR] at hc hm
    refine ⟨fun r h1 => r = nI x.1 ∧ Cx h h1 0 (-1) b (TT x), fun K1 k => hc K1 (fun h1 q => k _ h1 ⟨rfl, q⟩), fun r h1 md K2 k => ?_⟩
    obtain ⟨er, q⟩ := md
    rw [er] at k
    exact hm h1 K2 q.1 (fun h2 z => k h2 (Iv_text I q z okx))
/-- the law's codes are no more than its signs -/
theorem law_400 {s : Nat → Nat} {n : Nat} (h4 : n ≤ 400) (o : okK (tkT s n) n) {x : Nat × gLw} (e : pTx (tkT s n) begL (lwL (tkT s n)) 17 0 (pos s n 0) ([], []) = .ok x) : (X x.2.2).length ≤ 400 := by
  have key : ∀ (f k p : Nat) (a : gLw) (y : Nat × gLw), p ≤ n → (X a.2).length ≤ p → pTx (tkT s n) begL (lwL (tkT s n)) f k p a = .ok y → (X y.2.2).length ≤ n := by
    intro f
    induction f with
    | zero =>
      intro k p a y hp hl e
      rw [pTx] at e
      cases e
      show (X a.2).length ≤ n
      omega
    | succ f ih =>
      intro k p a y hp hl e
      rw [pTx] at e
      split at e
      · cases e
        show (X a.2).length ≤ n
        omega
      · rename_i z
        split at e
        · split at e
          · obtain ⟨x, ex, e⟩ := bind_ok e
            have hpn : p < n := okK_lt o z
            obtain ⟨b1, b2⟩ := bLine o hpn hl ex
            exact ih (k + 1) x.1 x.2 y b2 b1 e
          · cases e
        · cases e
  have := key 17 0 (pos s n 0) ([], []) x (pos_le 0) (Nat.zero_le _) e
  omega
theorem lc_text {E : gk_E} {d : Nat} (a0 : Int32) : lc_ok E (d + 24) InvX jdp_text jmo_text [.int a0] := by
  intro h I
  obtain ⟨N, T, iv⟩ := Iv_of I
  obtain ⟨cc, f, nn, ws, rs, ⟨hc, hm, hr, hw⟩, ⟨⟨l1, l2, l3⟩, l4, l5, l6, l7⟩, t, i5, wr, im⟩ := id iv
  obtain ⟨n, s, hn, tc, tm, tl⟩ := tape_of t
  have ew : h.1 1 0 = nI N := by rw [← l2, ← hw.1.1]; exact (wv_f rfl (by decide))
  have tcs : TCs h n s := ⟨hn, tc.1, fun i hi => ⟨tl i hi, tc.2 i hi⟩⟩
  have o : okK (tkT s n) n := tkT_ok tl
  have h16 : T.1.2.1 ≤ 16 := l5.1.2.1
  have S : ∀ h1, fr S_tc2 h h1 → TMs h1 n s ∧ wordsR h1 ∧ MTl h1 T ∧ h1.1 112 6 = nI N := by
    intro h1 a
    have e112 := (a 112 (by unfold S_tc2; omega)).1
    refine ⟨⟨hn, by rw [e112]; exact tm.1, fun i hi => ⟨tl i hi, by rw [(a 118 (by unfold S_tc2; omega)).2.1]; exact tm.2 i hi⟩⟩, ?_, MTl_eq (fun k q1 q2 => (a k (by unfold S_tc2; omega)).2.1) (by rw [e112]) (by rw [e112]) (by rw [e112]) l7, by rw [e112]; exact l3⟩
    unfold wordsR
    rw [(a 119 (by unfold S_tc2; omega)).2.1]; exact wr
  by_cases q : (0 : Int32) ≤ a0 ∧ a0 ≤ 3
  · obtain ⟨k, hk, ek⟩ := of05 (N := 3) (by decide) q
    rcases (show k = 0 ∨ k = 1 ∨ k = 2 ∨ k = 3 by omega) with z | z | z | z
    · have e0 : a0 = 0 := ek.trans (congrArg nI z)
      rw [e0]
      have x4 : ∀ x, pTx (tkT s n) begL (lwL (tkT s n)) 17 0 (pos s n 0) ([], []) = .ok x → (X x.2.2).length ≤ 400 := fun x ex => law_400 hn o ex
      exact lc_kind (R := pTx (tkT s n) begL (lwL (tkT s n)) 17 0 (pos s n 0) ([], [])) (TT := fun x => tW T (x.2.1.map lnOf)) (b := false) iv l5 (fun K kk => c_text0 (d := d) o tcs ew l6 (OC_mo kk (fun e H => H) (fun x _ H _ => H))) (fun h1 K a kk => m_text0 (d := d + 12) h16 o (S h1 a).1 (S h1 a).2.1 (S h1 a).2.2.1 x4 kk) (fun x ex => okT_W o l5 ex)
    · have e0 : a0 = 1 := ek.trans (congrArg nI z)
      rw [e0]
      exact lc_kind (R := pTx (tkT s n) (fun x => x == 111) (psL (tkT s n)) 17 0 (pos s n 0) (fun _ => 0)) (TT := fun x => tP T x.1 x.2) (b := false) iv l5 (fun K kk => c_text1 (d := d) o tcs ew l6 kk) (fun h1 K a kk => m_text1 (d := d + 12) h16 o (S h1 a).1 (S h1 a).2.1 (S h1 a).2.2.1 kk) (fun x ex => okT_P o l5 ex)
    · have e0 : a0 = 2 := ek.trans (congrArg nI z)
      rw [e0]
      exact lc_kind (R := pTx (tkT s n) (fun x => x == 117) (dyL (tkT s n) N) 17 0 (pos s n 0) []) (TT := fun x => tD T x.2) (b := true) iv l5 (fun K kk => c_text2 (d := d) l1 o tcs ew l6 kk) (fun h1 K a kk => m_text2 (d := d + 12) l1 (S h1 a).2.2.2 h16 o (S h1 a).1 (S h1 a).2.1 (S h1 a).2.2.1 kk) (fun x ex => okT_D l1 o l5 ex)
    · have e0 : a0 = 3 := ek.trans (congrArg nI z)
      rw [e0]
      exact lc_kind (R := pTx (tkT s n) (fun x => x == 123) (vcL (tkT s n) N) 17 0 (pos s n 0) (fun _ => 0)) (TT := fun x => tV T x.1 x.2) (b := false) iv l5 (fun K kk => c_text3 (d := d) l1 o tcs ew l6 kk) (fun h1 K a kk => m_text3 (d := d + 12) l1 (S h1 a).2.2.2 h16 o (S h1 a).1 (S h1 a).2.1 (S h1 a).2.2.1 kk) (fun x ex => okT_V l1 o l5 ex)
  · refine ⟨fun r h1 => r = -1 ∧ Cx h h1 0 (-1) false T, fun K1 k => c_textN (d := d) q l6 (fun h1 z => k _ h1 ⟨rfl, z⟩), fun r h1 md K2 k => ?_⟩
    obtain ⟨er, z⟩ := md
    rw [er] at k
    exact m_textN (d := d + 12) q (S h1 z.1).2.2.1 (fun h2 y => k h2 (Iv_text iv z y l5))
