/-! all texts copied; the law seen from both places -/
theorem L16 {L : List gLn} {l : Nat} {x : gLn} (h : L.length ≤ 16) (e : L[l]? = some x) : l < 16 := by
  have : l < L.length := by
    rcases Nat.lt_or_ge l L.length with q | q
    · exact q
    · rw [List.getElem?_eq_none q] at e; cases e
  omega
theorem cLaw_cp {ln us : Int32} {wd va wh st op ar wd' va' wh' st' op' ar' : Nat → Int32} {L : List gLn} {u : Nat} (hu : u ≤ 400) (eu : us = nI u) (e1 : ∀ j, j < 16 → wd' j = wd j ∧ va' j = va j ∧ wh' j = wh j ∧ st' j = st j) (e2 : ∀ j, j < u → op' j = op j ∧ ar' j = ar j) (c : cLaw ln us wd va wh st op ar L) : cLaw ln us wd' va' wh' st' op' ar' L := by
  obtain ⟨c1, u', ⟨u1, u2⟩, c3⟩ := c
  have : u' = u := (nI_eq (by omega) (by omega)).mp (u2.symm.trans eu)
  rw [this] at u1 u2 c3
  refine ⟨c1, u, ⟨u1, u2⟩, fun l x e => ?_⟩
  obtain ⟨a, b, cc, ⟨o1, o2, o3⟩, ⟨w1, w2, w3, w4⟩, s1, s2⟩ := c3 l x e
  obtain ⟨q1, q2, q3, q4⟩ := e1 l (L16 c1.1 e)
  refine ⟨a, b, cc, ⟨o1, o2, o3⟩, ⟨q1.trans w1, q2.trans w2, q3.trans w3, q4.trans w4⟩, ?_, ?_⟩
  · rw [← s1]; exact sg_congr fun i h1 h2 => e2 i (by omega)
  · rw [← s2]; exact sg_congr fun i h1 h2 => e2 i (by omega)
theorem mLaw_cp {ln ln' : Int32} {wd fo wh to op ar wd' fo' wh' to' op' ar' : Nat → Int32} {L : List gLn} (el : ln' = ln) (e1 : ∀ j, j < 16 → wd' j = wd j ∧ fo' j = fo j ∧ wh' j = wh j ∧ to' j = to j) (e2 : ∀ j, j < 400 → op' j = op j ∧ ar' j = ar j) (c : mLaw ln wd fo wh to op ar L) : mLaw ln' wd' fo' wh' to' op' ar' L := by
  obtain ⟨c1, c3⟩ := c
  refine ⟨⟨c1.1, el.trans c1.2⟩, fun l x e => ?_⟩
  obtain ⟨a, b, cc, ⟨o1, o2, o3⟩, ⟨w1, w2, w3, w4⟩, s1, s2⟩ := c3 l x e
  obtain ⟨q1, q2, q3, q4⟩ := e1 l (L16 c1.1 e)
  refine ⟨a, b, cc, ⟨o1, o2, o3⟩, ⟨q1.trans w1, q2.trans w2, q3.trans w3, q4.trans w4⟩, ?_, ?_⟩
  · rw [← s1]; exact sg_congr fun i h1 h2 => e2 i (by omega)
  · rw [← s2]; exact sg_congr fun i h1 h2 => e2 i (by omega)
def LVs (u : gk_H) (V : Nat → Int32) : Prop := LV1 u V ∧ LV2 u V ∧ LV3 u V ∧ LV4 u V
theorem LVs_V {u : gk_H} {V V' : Nat → Int32} (e : ∀ j, j < 1720 → V' j = V j) (l : LVs u V) : LVs u V' := by
  obtain ⟨l1, ⟨⟨a1, a2, a3, a4⟩, l3, l4, l5⟩, l6, l7, l8, l9⟩ := l
  refine ⟨fun k hk => by rw [e _ (by omega)]; exact l1 k hk, ⟨⟨by rw [e _ (by omega)]; exact a1, by rw [e _ (by omega)]; exact a2, by rw [e _ (by omega)]; exact a3, by rw [e _ (by omega)]; exact a4⟩, fun k hk => by rw [e _ (by omega), e _ (by omega)]; exact l3 k hk, fun k hk => by rw [e _ (by omega)]; exact l4 k hk, fun k hk => by rw [e _ (by omega)]; exact l5 k hk⟩, fun k hk => by rw [e _ (by omega)]; exact l6 k hk, by rw [e _ (by omega)]; exact l7, fun k hk => by rw [e _ (by omega), e _ (by omega), e _ (by omega), e _ (by omega)]; exact l8 k hk, fun k hk => by rw [e _ (by omega), e _ (by omega)]; exact l9 k hk⟩
theorem MT_li {u : gk_H} {T : gT} (h16 : T.1.2.1 ≤ 16) (l : LVs u (u.2.1 144)) (m : MTl u T) : MTi u T := by
  obtain ⟨l1, ⟨⟨a1, a2, a3, a4⟩, l3, l4, l5⟩, l6, l7, l8, l9⟩ := l
  obtain ⟨⟨m1, m2, m3⟩, m4, m5, m6, m7, m8⟩ := m
  exact ⟨⟨a2.symm.trans m1, a3.symm.trans m2, a4.symm.trans m3⟩, fun k hk => (l4 k hk).symm.trans (m4 k hk), fun k hk => (l5 k (by omega)).symm.trans (m5 k hk), fun k hk => (l3 k hk).2.symm.trans (m6 k hk), mLaw_cp l7.symm (fun j hj => ⟨(l8 j hj).1.symm, (l8 j hj).2.1.symm, (l8 j hj).2.2.1.symm, (l8 j hj).2.2.2.symm⟩) (fun j hj => ⟨(l9 j hj).1.symm, (l9 j hj).2.symm⟩) m7, fun k hk => (l6 k hk).symm.trans (m8 k hk)⟩
theorem MT_il {u : gk_H} {T : gT} (h16 : T.1.2.1 ≤ 16) (l : LVs u (u.2.1 144)) (m : MTi u T) : MTl u T := by
  obtain ⟨l1, ⟨⟨a1, a2, a3, a4⟩, l3, l4, l5⟩, l6, l7, l8, l9⟩ := l
  obtain ⟨⟨m1, m2, m3⟩, m4, m5, m6, m7, m8⟩ := m
  exact ⟨⟨a2.trans m1, a3.trans m2, a4.trans m3⟩, fun k hk => (l4 k hk).trans (m4 k hk), fun k hk => (l5 k (by omega)).trans (m5 k hk), fun k hk => (l3 k hk).2.trans (m6 k hk), mLaw_cp l7 l8 l9 m7, fun k hk => (l6 k hk).trans (m8 k hk)⟩
theorem s_tx_copyAll_7_99 {E : gk_E} {d : Nat} {h : gk_H} {K : gk_H → Prop} {T : gT} {lS : Nat} (h16 : T.1.2.1 ≤ 16) (c : CT h 99 lS T) (k : ∀ h', fr (fun k => 8 ≤ k ∧ k ≤ 18) h h' → (∀ v lD, fr (fun k => ¬ (8 ≤ k ∧ k ≤ 18)) h' v → (∀ j, j < 600 → v.2.1 lD j = h.2.1 lS j) → CT v 7 lD T) → K h') : gk_cv E (d + 4) jtx_copyAll [.ref 7, .ref 99] h K := by
  obtain ⟨⟨t1, t2, t3⟩, cp, cd, cv, cl, cb⟩ := c
  obtain ⟨u, ⟨hu, eu⟩, -⟩ := cl.2
  refine gk_cv_mk (x_tx_copyAll_7_99 (fe ?_))
  refine x_tx_copyAll_7_99_2 (pk_le 4 0 (fun q => by omega) (fun _ => s_tx_copy0_7_99 (d := d) hu eu fun h1 f1 l1 e1 => fe ?_))
  rw [show (0 : Int32) + 1 = 1 by decide]
  refine x_tx_copyAll_7_99_2 (pk_le 4 1 (fun q => by omega) (fun _ => s_tx_copy1_7_99 (d := d) fun h2 f2 a2 e2 b2 => fe ?_))
  rw [show (1 : Int32) + 1 = 2 by decide]
  refine x_tx_copyAll_7_99_2 (pk_le 4 2 (fun q => by omega) (fun _ => s_tx_copy2_7_99 (d := d) fun h3 f3 a3 e3 b3 => fe ?_))
  rw [show (2 : Int32) + 1 = 3 by decide]
  refine x_tx_copyAll_7_99_2 (pk_le 4 3 (fun q => by omega) (fun _ => s_tx_copy3_7_99 (d := d) fun h4 f4 a4 e4 b4 => fe ?_))
  rw [show (3 : Int32) + 1 = 4 by decide]
  refine x_tx_copyAll_7_99_2 (pk_le 4 4 (fun _ => ?_) (fun q => by omega))
  refine k h4 (fr_tr (fr_mo f1 (fun k q => by omega)) (fr_tr (fr_mo f2 (fun k q => by omega)) (fr_tr (fr_mo f3 (fun k q => by omega)) (fr_mo f4 (fun k q => by omega))))) fun v lD fv eb => ?_
  have g2 : fr (fun k => 15 ≤ k ∧ k ≤ 18) h1 h4 := fr_tr (fr_mo f2 (fun k q => by omega)) (fr_tr (fr_mo f3 (fun k q => by omega)) (fr_mo f4 (fun k q => by omega)))
  have V : ∀ k, 8 ≤ k → k ≤ 18 → v.1 k = h4.1 k ∧ v.2.1 k = h4.2.1 k := fun k h1 h2 => ⟨(fv k (by omega)).1, (fv k (by omega)).2.1⟩
  have LW : ∀ k, 8 ≤ k → k ≤ 14 → v.1 k = h1.1 k ∧ v.2.1 k = h1.2.1 k := fun k q1 q2 => ⟨(V k q1 (by omega)).1.trans (g2 k (by omega)).1, (V k q1 (by omega)).2.trans (g2 k (by omega)).2.1⟩
  obtain ⟨⟨la, lb⟩, lc, ld⟩ := l1
  refine ⟨⟨?_, ?_, ?_⟩, fun j hj => ?_, fun j hj => ?_, fun j hj => ?_, ?_, fun j hj => (eb j hj).trans (cb j hj)⟩
  · show v.2.1 15 1 = _
    rw [(V 15 (by omega) (by omega)).2, e4 1 (by decide), e3 1 (by decide), a2, (f1 107 (by omega)).2.1]; exact t1
  · show v.2.1 15 2 = _
    rw [(V 15 (by omega) (by omega)).2, e4 2 (by decide), a3, (f2 107 (by omega)).2.1, (f1 107 (by omega)).2.1]; exact t2
  · show v.2.1 15 3 = _
    rw [(V 15 (by omega) (by omega)).2, a4, (f3 107 (by omega)).2.1, (f2 107 (by omega)).2.1, (f1 107 (by omega)).2.1]; exact t3
  · show v.2.1 16 j = _
    rw [(V 16 (by omega) (by omega)).2, (f4 16 (by omega)).2.1, (f3 16 (by omega)).2.1, b2 j hj, (f1 108 (by omega)).2.1]; exact cp j hj
  · show v.2.1 17 j = _
    rw [(V 17 (by omega) (by omega)).2, (f4 17 (by omega)).2.1, b3 j (by omega), (f2 109 (by omega)).2.1, (f1 109 (by omega)).2.1]; exact cd j hj
  · show v.2.1 18 j = _
    rw [(V 18 (by omega) (by omega)).2, b4 j hj, (f3 110 (by omega)).2.1, (f2 110 (by omega)).2.1, (f1 110 (by omega)).2.1]; exact cv j hj
  · show cLaw (v.1 8 0) (v.1 8 1) (v.2.1 9) (v.2.1 10) (v.2.1 11) (v.2.1 12) (v.2.1 13) (v.2.1 14) T.2.2.2.2.1
    rw [(LW 8 (by omega) (by omega)).1, (LW 9 (by omega) (by omega)).2, (LW 10 (by omega) (by omega)).2, (LW 11 (by omega) (by omega)).2, (LW 12 (by omega) (by omega)).2, (LW 13 (by omega) (by omega)).2, (LW 14 (by omega) (by omega)).2, la, lb]
    exact cLaw_cp hu eu lc ld cl
theorem s_tx_copyAll_99_7 {E : gk_E} {d : Nat} {h : gk_H} {K : gk_H → Prop} {T : gT} {lS : Nat} (h16 : T.1.2.1 ≤ 16) (c : CT h 7 lS T) (k : ∀ h', fr (fun k => 100 ≤ k ∧ k ≤ 110) h h' → (∀ v lD, fr (fun k => ¬ (100 ≤ k ∧ k ≤ 110)) h' v → (∀ j, j < 600 → v.2.1 lD j = h.2.1 lS j) → CT v 99 lD T) → K h') : gk_cv E (d + 4) jtx_copyAll [.ref 99, .ref 7] h K := by
  obtain ⟨⟨t1, t2, t3⟩, cp, cd, cv, cl, cb⟩ := c
  obtain ⟨u, ⟨hu, eu⟩, -⟩ := cl.2
  refine gk_cv_mk (x_tx_copyAll_99_7 (fe ?_))
  refine x_tx_copyAll_99_7_2 (pk_le 4 0 (fun q => by omega) (fun _ => s_tx_copy0_99_7 (d := d) hu eu fun h1 f1 l1 e1 => fe ?_))
  rw [show (0 : Int32) + 1 = 1 by decide]
  refine x_tx_copyAll_99_7_2 (pk_le 4 1 (fun q => by omega) (fun _ => s_tx_copy1_99_7 (d := d) fun h2 f2 a2 e2 b2 => fe ?_))
  rw [show (1 : Int32) + 1 = 2 by decide]
  refine x_tx_copyAll_99_7_2 (pk_le 4 2 (fun q => by omega) (fun _ => s_tx_copy2_99_7 (d := d) fun h3 f3 a3 e3 b3 => fe ?_))
  rw [show (2 : Int32) + 1 = 3 by decide]
  refine x_tx_copyAll_99_7_2 (pk_le 4 3 (fun q => by omega) (fun _ => s_tx_copy3_99_7 (d := d) fun h4 f4 a4 e4 b4 => fe ?_))
  rw [show (3 : Int32) + 1 = 4 by decide]
  refine x_tx_copyAll_99_7_2 (pk_le 4 4 (fun _ => ?_) (fun q => by omega))
  refine k h4 (fr_tr (fr_mo f1 (fun k q => by omega)) (fr_tr (fr_mo f2 (fun k q => by omega)) (fr_tr (fr_mo f3 (fun k q => by omega)) (fr_mo f4 (fun k q => by omega))))) fun v lD fv eb => ?_
  have g2 : fr (fun k => 107 ≤ k ∧ k ≤ 110) h1 h4 := fr_tr (fr_mo f2 (fun k q => by omega)) (fr_tr (fr_mo f3 (fun k q => by omega)) (fr_mo f4 (fun k q => by omega)))
  have V : ∀ k, 100 ≤ k → k ≤ 110 → v.1 k = h4.1 k ∧ v.2.1 k = h4.2.1 k := fun k h1 h2 => ⟨(fv k (by omega)).1, (fv k (by omega)).2.1⟩
  have LW : ∀ k, 100 ≤ k → k ≤ 106 → v.1 k = h1.1 k ∧ v.2.1 k = h1.2.1 k := fun k q1 q2 => ⟨(V k q1 (by omega)).1.trans (g2 k (by omega)).1, (V k q1 (by omega)).2.trans (g2 k (by omega)).2.1⟩
  obtain ⟨⟨la, lb⟩, lc, ld⟩ := l1
  refine ⟨⟨?_, ?_, ?_⟩, fun j hj => ?_, fun j hj => ?_, fun j hj => ?_, ?_, fun j hj => (eb j hj).trans (cb j hj)⟩
  · show v.2.1 107 1 = _
    rw [(V 107 (by omega) (by omega)).2, e4 1 (by decide), e3 1 (by decide), a2, (f1 15 (by omega)).2.1]; exact t1
  · show v.2.1 107 2 = _
    rw [(V 107 (by omega) (by omega)).2, e4 2 (by decide), a3, (f2 15 (by omega)).2.1, (f1 15 (by omega)).2.1]; exact t2
  · show v.2.1 107 3 = _
    rw [(V 107 (by omega) (by omega)).2, a4, (f3 15 (by omega)).2.1, (f2 15 (by omega)).2.1, (f1 15 (by omega)).2.1]; exact t3
  · show v.2.1 108 j = _
    rw [(V 108 (by omega) (by omega)).2, (f4 108 (by omega)).2.1, (f3 108 (by omega)).2.1, b2 j hj, (f1 16 (by omega)).2.1]; exact cp j hj
  · show v.2.1 109 j = _
    rw [(V 109 (by omega) (by omega)).2, (f4 109 (by omega)).2.1, b3 j (by omega), (f2 17 (by omega)).2.1, (f1 17 (by omega)).2.1]; exact cd j hj
  · show v.2.1 110 j = _
    rw [(V 110 (by omega) (by omega)).2, b4 j hj, (f3 18 (by omega)).2.1, (f2 18 (by omega)).2.1, (f1 18 (by omega)).2.1]; exact cv j hj
  · show cLaw (v.1 100 0) (v.1 100 1) (v.2.1 101) (v.2.1 102) (v.2.1 103) (v.2.1 104) (v.2.1 105) (v.2.1 106) T.2.2.2.2.1
    rw [(LW 100 (by omega) (by omega)).1, (LW 101 (by omega) (by omega)).2, (LW 102 (by omega) (by omega)).2, (LW 103 (by omega) (by omega)).2, (LW 104 (by omega) (by omega)).2, (LW 105 (by omega) (by omega)).2, (LW 106 (by omega) (by omega)).2, la, lb]
    exact cLaw_cp hu eu lc ld cl
