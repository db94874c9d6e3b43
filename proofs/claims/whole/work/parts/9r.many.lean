/-! the reference reads conditions -/
def mF2 (f : Nat) : Prop := mF f ∨ f = 25 ∨ f = 27
def MD2 (h h' : gk_H) : Prop := fr (fun k => k = 112 ∨ k = 125 ∨ k = 126 ∨ k = 127) h h' ∧ (∀ f, ¬ mF2 f → h'.1 112 f = h.1 112 f) ∧ ∀ i, i < 800 → h'.2.1 125 i = h.2.1 125 i ∧ h'.2.1 126 i = h.2.1 126 i
theorem MD2_rf {h : gk_H} : MD2 h h := ⟨fr_rf, fun _ _ => rfl, fun _ _ => ⟨rfl, rfl⟩⟩
theorem MD2_tr {h1 h2 h3 : gk_H} (a : MD2 h1 h2) (b : MD2 h2 h3) : MD2 h1 h3 := ⟨fr_tr a.1 b.1, fun f q => (b.2.1 f q).trans (a.2.1 f q), fun i q => ⟨(b.2.2 i q).1.trans (a.2.2 i q).1, (b.2.2 i q).2.trans (a.2.2 i q).2⟩⟩
theorem MD2_of {h h' : gk_H} (a : MD h h') : MD2 h h' := ⟨fr_mo a.1 (fun k q => by omega), fun f q => a.2.1 f (fun z => q (Or.inl z)), a.2.2⟩
theorem MD2_hf {h h' : gk_H} {f : Nat} {x : Int32} (a : MD2 h h') (hf : mF2 f) : MD2 h (gk_hf h' 112 f x) := ⟨fr_tr a.1 (fr_hf (Or.inl rfl)), fun g hg => by
  rw [hf_f, if_neg (fun q => hg (by rw [q.2]; exact hf))]; exact a.2.1 g hg, a.2.2⟩
def MPs (h : gk_H) : List Nat → Prop
  | [] => True
  | z :: Z => h.2.1 127 Z.length = nI z ∧ MPs h Z
def oZ : List Nat → Nat
  | [] => 0
  | z :: Z => if z = 9 ∨ z = 12 then oZ Z + 1 else oZ Z
def bZ : List Nat → Nat
  | [] => 0
  | z :: Z => if z = 12 then bZ Z + 1 else bZ Z
def sZ (w : Nat) : List Nat → List Nat
  | [] => []
  | z :: Z => if z = w then sZ w Z else z :: Z
def sC (w : Nat) : List Nat → gSg → gSg
  | [], C => C
  | z :: Z, C => if z = w then sC w Z (C ++ [(nI w, 0)]) else C
theorem bZ_le : ∀ Z : List Nat, bZ Z ≤ Z.length
  | [] => Nat.le_refl _
  | z :: Z => by
    have := bZ_le Z
    rw [bZ]
    split
    · show bZ Z + 1 ≤ Z.length + 1; omega
    · show bZ Z ≤ Z.length + 1; omega
theorem oZ_le : ∀ Z : List Nat, oZ Z ≤ Z.length
  | [] => Nat.le_refl _
  | z :: Z => by
    have := oZ_le Z
    rw [oZ]
    split
    · show oZ Z + 1 ≤ Z.length + 1; omega
    · show oZ Z ≤ Z.length + 1; omega
theorem bZ_s9 : ∀ Z : List Nat, bZ (sZ 9 Z) = bZ Z
  | [] => rfl
  | z :: Z => by
    rw [sZ]
    split
    · rename_i q
      rw [bZ_s9 Z, q]; rfl
    · rfl
theorem MPs_eq {h h' : gk_H} : ∀ Z : List Nat, (∀ i, i < Z.length → h'.2.1 127 i = h.2.1 127 i) → MPs h Z → MPs h' Z
  | [], _, _ => trivial
  | z :: Z, e, m => ⟨(e Z.length (Nat.lt_succ_self _)).trans m.1, MPs_eq Z (fun i hi => e i (Nat.lt_succ_of_lt hi)) m.2⟩
def RS (h0 h : gk_H) (s : Nat → Nat) (n p : Nat) (C : gSg) (Z : List Nat) : Prop := p ≤ n ∧ MD2 h0 h ∧ RTk h n s p ∧ MCo h C ∧ h.1 112 25 = nI (oZ Z) ∧ h.1 112 27 = nI Z.length ∧ MPs h Z
def RSf (h0 h : gk_H) (e : Nat × Nat) : Prop := MD2 h0 h ∧ h.1 112 28 = nI e.1 ∧ h.1 112 29 = nI e.2
section MNY
variable {E : gk_E} {d : Nat} {h h0 : gk_H} {n p : Nat} {s : Nat → Nat} {C : gSg} {Z : List Nat}
theorem RS_rc (st : RS h0 h s n p C Z) : RC h h s n p C := ⟨st.1, MD_rf, st.2.2.1, st.2.2.2.1⟩
theorem RS_RC {h' : gk_H} {q : Nat} {C' : gSg} (st : RS h0 h s n p C Z) (r : RC h h' s n q C') : RS h0 h' s n q C' Z := by
  obtain ⟨-, md, -, -, e25, e27, mp⟩ := st
  obtain ⟨hq, m2, rt, mc⟩ := r
  refine ⟨hq, MD2_tr md (MD2_of m2), rt, mc, (m2.2.1 25 (by unfold mF; omega)).trans e25, (m2.2.1 27 (by unfold mF; omega)).trans e27, MPs_eq Z (fun i _ => by rw [(m2.1 127 (by omega)).2.1]) mp⟩
theorem RS_f {h' : gk_H} {e : Nat × Nat} (st : RS h0 h s n p C Z) (r : RCf h h' e) : RSf h0 h' e := ⟨MD2_tr st.2.1 (MD2_of r.1), r.2⟩
theorem RS_tm (tm : TMs h0 n s) (st : RS h0 h s n p C Z) : TMs h n s := ⟨tm.1, (st.2.1.2.1 10 (by unfold mF2 mF; omega)).trans tm.2.1, by rw [(st.2.1.1 118 (by omega)).2.1]; exact tm.2.2⟩
theorem RS_wr (wr : wordsR h0) (st : RS h0 h s n p C Z) : wordsR h := by unfold wordsR; rw [(st.2.1.1 119 (by omega)).2.1]; exact wr
theorem s_rs_reads {K : gk_H → Prop} (tm : TMs h0 n s) (wr : wordsR h0) (st : RS h0 h s n p C Z) (k : ∀ h', RS h0 h' s n (nxp s n p) C Z → K h') : gk_cv E (d + 4) jmo_reads [.ref 112] h K := s_rc_reads (RS_tm tm st) (RS_wr wr st) (RS_rc st) (fun h' r => k h' (RS_RC st r))
theorem s_rs_errs {K : Int32 → gk_H → Prop} {f : Nat} (st : RS h0 h s n p C Z) (k : ∀ h', RSf h0 h' (f, p) → K (-1) h') : gk_ci E (d + 1) jmo_errs [.ref 112, .int (nI f)] h K := s_rc_errs (RS_rc st) (fun h' r => k h' (RS_f st r))
theorem s_mo_waits {K : gk_H → Prop} {z : Nat} (st : RS h0 h s n p C Z) (hZ : Z.length < 40) (hz : ¬ (z = 9 ∨ z = 12)) (k : ∀ h', RS h0 h' s n p C (z :: Z) → K h') : gk_cv E (d + 1) jmo_waits [.ref 112, .int (nI z)] h K := by
  obtain ⟨hp, md, rt, mc, e25, e27, mp⟩ := st
  refine gk_cv_mk (x_mo_waits ?_)
  unfold w_mo_waits
  rw [e27]
  refine ⟨vp_in_nI hZ (by decide), ?_⟩
  rw [nI_clamp (by omega)]
  refine fe ?_
  have e : (gk_ha h 127 Z.length (nI z)).1 112 27 = nI Z.length := e27
  rw [e, nI_1]
  refine fe (k _ ⟨hp, ?_, RTk_hf (by decide) rt, ⟨?_, ?_⟩, ?_, ?_, ?_, ?_⟩)
  · refine ⟨fr_tr md.1 (fr_tr (fr_ha (by omega)) (fr_hf (by omega))), fun f hf => ?_, fun i hi => ?_⟩
    · rw [hf_f, if_neg (fun q => hf (by unfold mF2; omega))]; exact md.2.1 f hf
    · rw [hf_2, ha_o (by decide), ha_o (by decide)]; exact md.2.2 i hi
  · rw [hf_f, if_neg (by decide)]; exact mc.1
  · intro i x hx
    rw [hf_2, ha_o (by decide), ha_o (by decide)]; exact mc.2 i x hx
  · rw [hf_f, if_neg (by decide), oZ, if_neg hz]; exact e25
  · rw [hf_f, if_pos ⟨rfl, rfl⟩]; rfl
  · rw [hf_2, OW_set, if_pos rfl]
  · exact MPs_eq Z (fun i hi => by rw [hf_2, OW_set, if_neg (by omega)]) mp
/-- a not or a bracket: one more is begun -/
theorem s_mo_waits2 {K : gk_H → Prop} {z : Nat} (st : RS h0 h s n p C Z) (hZ : Z.length < 40) (hz : z = 9 ∨ z = 12) (k : ∀ h', RS h0 h' s n p C (z :: Z) → K h') : gk_cv E (d + 1) jmo_waits [.ref 112, .int (nI z)] (gk_hf h 112 25 (nI (oZ Z + 1))) K := by
  obtain ⟨hp, md, rt, mc, e25, e27, mp⟩ := st
  have x27 : (gk_hf h 112 25 (nI (oZ Z + 1))).1 112 27 = nI Z.length := by rw [hf_f, if_neg (by decide)]; exact e27
  refine gk_cv_mk (x_mo_waits ?_)
  unfold w_mo_waits
  rw [x27]
  refine ⟨vp_in_nI hZ (by decide), ?_⟩
  rw [nI_clamp (by omega)]
  refine fe ?_
  have e : (gk_ha (gk_hf h 112 25 (nI (oZ Z + 1))) 127 Z.length (nI z)).1 112 27 = nI Z.length := x27
  rw [e, nI_1]
  have rt1 : RTk (gk_ha (gk_hf h 112 25 (nI (oZ Z + 1))) 127 Z.length (nI z)) n s p := RTk_hf (h := h) (f := 25) (x := nI (oZ Z + 1)) (by decide) rt
  refine fe (k _ ⟨hp, ?_, RTk_hf (by decide) rt1, ⟨?_, ?_⟩, ?_, ?_, ?_, ?_⟩)
  · refine ⟨fr_tr md.1 (fr_tr (fr_hf (by omega)) (fr_tr (fr_ha (by omega)) (fr_hf (by omega)))), fun f hf => ?_, fun i hi => ?_⟩
    · rw [hf_f, if_neg (fun q => hf (by unfold mF2; omega)), ha_1, hf_f, if_neg (fun q => hf (by unfold mF2; omega))]; exact md.2.1 f hf
    · rw [hf_2, ha_o (by decide), ha_o (by decide), hf_2]; exact md.2.2 i hi
  · rw [hf_f, if_neg (by decide), ha_1, hf_f, if_neg (by decide)]; exact mc.1
  · intro i x hx
    rw [hf_2, ha_o (by decide), ha_o (by decide), hf_2]; exact mc.2 i x hx
  · rw [hf_f, if_neg (by decide), ha_1, hf_f, if_pos ⟨rfl, rfl⟩, oZ, if_pos hz]
  · rw [hf_f, if_pos ⟨rfl, rfl⟩]; rfl
  · rw [hf_2, OW_set, if_pos rfl]
  · exact MPs_eq Z (fun i hi => by rw [hf_2, OW_set, if_neg (by omega), hf_2]) mp
theorem g_mo_settles {K : gk_H → Prop} {w : Nat} (hw : w = 9 ∨ w = 10 ∨ w = 11) : ∀ (Z : List Nat) (C : gSg) (h : gk_H), (∀ z, z ∈ Z → z < 100) → Z.length ≤ 40 → C.length + Z.length ≤ 400 → RS h0 h s n p C Z → (∀ h', RS h0 h' s n p (sC w Z C) (sZ w Z) → K h') → g_mo_settles_0 E (d + 1) (gk_qv K) (nI w) h := by
  intro Z
  induction Z with
  | nil =>
    intro C h hz hl hc st k
    exact x_mo_settles_0 (yT (by rw [st.2.2.2.2.2.1]; decide) (k h st))
  | cons z Z ih =>
    intro C h hz hl hc st k
    obtain ⟨hp, md, rt, mc, e25, e27, mp⟩ := id st
    have hl : Z.length + 1 ≤ 40 := hl
    have hc : C.length + (Z.length + 1) ≤ 400 := hc
    have e27 : h.1 112 27 = nI (Z.length + 1) := e27
    have em : nI (Z.length + 1) - 1 = nI Z.length := pk_sub (a := Z.length + 1) (b := 1) (by omega)
    have z1 := hz z (List.mem_cons_self ..)
    refine x_mo_settles_0 ?_
    unfold w_mo_settles_0
    rw [e27, em, nI_clamp (by omega), mp.1]
    refine pk_le (Z.length + 1) 0 (fun q => by omega) (fun _ => ⟨vp_in_nI (by omega) (by decide), pk_ne z w (fun q => ?_) (fun q => fe ?_)⟩)
    · rw [sC, sZ, if_neg q, if_neg q] at k
      exact k h st
    · rw [sC, sZ, if_pos q, if_pos q] at k
      have st1 : RC (gk_hf h 112 27 (nI Z.length)) (gk_hf h 112 27 (nI Z.length)) s n p C := ⟨hp, MD_rf, RTk_hf (by decide) rt, by rw [hf_f, if_neg (by decide)]; exact mc.1, mc.2⟩
      refine s_rc_emits (d := d) st1 (by omega) (fun h1 r1 => ?_)
      obtain ⟨-, m2, rt2, mc2⟩ := r1
      have a27 : h1.1 112 27 = nI Z.length := by rw [m2.2.1 27 (by unfold mF; omega), hf_f, if_pos ⟨rfl, rfl⟩]
      have a25 : h1.1 112 25 = nI (oZ (z :: Z)) := by rw [m2.2.1 25 (by unfold mF; omega), hf_f, if_neg (by decide)]; exact e25
      have amd : MD2 h0 h1 := MD2_tr (MD2_hf md (by unfold mF2; omega)) (MD2_of m2)
      have amp : MPs h1 Z := MPs_eq Z (fun i _ => by rw [(m2.1 127 (by omega)).2.1, hf_2]) mp.2
      refine pk_ne w 9 (fun q9 => ih _ h1 (fun z' hz' => hz z' (List.mem_cons_of_mem _ hz')) (by omega) (by rw [List.length_append]; show C.length + 1 + Z.length ≤ 400; omega) ⟨hp, amd, rt2, mc2, ?_, a27, amp⟩ k) (fun q9 => fe (ih _ _ (fun z' hz' => hz z' (List.mem_cons_of_mem _ hz')) (by omega) (by rw [List.length_append]; show C.length + 1 + Z.length ≤ 400; omega) ⟨hp, MD2_hf amd (by unfold mF2; omega), RTk_hf (by decide) rt2, ⟨?_, mc2.2⟩, ?_, ?_, MPs_eq (h := h1) Z (fun i _ => rfl) amp⟩ k))
      · rw [a25, oZ, if_neg (by omega)]
      · rw [hf_f, if_neg (by decide)]; exact mc2.1
      · rw [hf_f, if_pos ⟨rfl, rfl⟩, a25, oZ, if_pos (by omega)]
        exact pk_sub (a := oZ Z + 1) (b := 1) (by omega)
      · rw [hf_f, if_neg (by decide)]; exact a27
theorem s_mo_settles {K : gk_H → Prop} {w : Nat} (hw : w = 9 ∨ w = 10 ∨ w = 11) (hz : ∀ z, z ∈ Z → z < 100) (hl : Z.length ≤ 40) (hc : C.length + Z.length ≤ 400) (st : RS h0 h s n p C Z) (k : ∀ h', RS h0 h' s n p (sC w Z C) (sZ w Z) → K h') : gk_cv E (d + 2) jmo_settles [.ref 112, .int (nI w)] h K := by
  refine gk_cv_mk (x_mo_settles ?_)
  cases Z with
  | nil => exact yT (by rw [st.2.2.2.2.2.1]; decide) (k h st)
  | cons z Z =>
    obtain ⟨hp, md, rt, mc, e25, e27, mp⟩ := id st
    have hl : Z.length + 1 ≤ 40 := hl
    have hc : C.length + (Z.length + 1) ≤ 400 := hc
    have e27 : h.1 112 27 = nI (Z.length + 1) := e27
    have em : nI (Z.length + 1) - 1 = nI Z.length := pk_sub (a := Z.length + 1) (b := 1) (by omega)
    have z1 := hz z (List.mem_cons_self ..)
    unfold w_mo_settles
    rw [e27, em, nI_clamp (by omega), mp.1]
    refine pk_le (Z.length + 1) 0 (fun q => by omega) (fun _ => ⟨vp_in_nI (by omega) (by decide), pk_ne z w (fun q => ?_) (fun q => fe ?_)⟩)
    · rw [sC, sZ, if_neg q, if_neg q] at k
      exact k h st
    · rw [sC, sZ, if_pos q, if_pos q] at k
      have st1 : RC (gk_hf h 112 27 (nI Z.length)) (gk_hf h 112 27 (nI Z.length)) s n p C := ⟨hp, MD_rf, RTk_hf (by decide) rt, by rw [hf_f, if_neg (by decide)]; exact mc.1, mc.2⟩
      refine s_rc_emits (d := d) st1 (by omega) (fun h1 r1 => ?_)
      obtain ⟨-, m2, rt2, mc2⟩ := r1
      have a27 : h1.1 112 27 = nI Z.length := by rw [m2.2.1 27 (by unfold mF; omega), hf_f, if_pos ⟨rfl, rfl⟩]
      have a25 : h1.1 112 25 = nI (oZ (z :: Z)) := by rw [m2.2.1 25 (by unfold mF; omega), hf_f, if_neg (by decide)]; exact e25
      have amd : MD2 h0 h1 := MD2_tr (MD2_hf md (by unfold mF2; omega)) (MD2_of m2)
      have amp : MPs h1 Z := MPs_eq Z (fun i _ => by rw [(m2.1 127 (by omega)).2.1, hf_2]) mp.2
      refine pk_ne w 9 (fun q9 => g_mo_settles hw Z _ h1 (fun z' hz' => hz z' (List.mem_cons_of_mem _ hz')) (by omega) (by rw [List.length_append]; show C.length + 1 + Z.length ≤ 400; omega) ⟨hp, amd, rt2, mc2, ?_, a27, amp⟩ k) (fun q9 => fe (g_mo_settles hw Z _ _ (fun z' hz' => hz z' (List.mem_cons_of_mem _ hz')) (by omega) (by rw [List.length_append]; show C.length + 1 + Z.length ≤ 400; omega) ⟨hp, MD2_hf amd (by unfold mF2; omega), RTk_hf (by decide) rt2, ⟨?_, mc2.2⟩, ?_, ?_, MPs_eq (h := h1) Z (fun i _ => rfl) amp⟩ k))
      · rw [a25, oZ, if_neg (by omega)]
      · rw [hf_f, if_neg (by decide)]; exact mc2.1
      · rw [hf_f, if_pos ⟨rfl, rfl⟩, a25, oZ, if_pos (by omega)]
        exact pk_sub (a := oZ Z + 1) (b := 1) (by omega)
      · rw [hf_f, if_neg (by decide)]; exact a27
end MNY
def zB (Z : List Nat) : Prop := ∀ z, z ∈ Z → z < 100
theorem zB_c {z : Nat} {Z : List Nat} (h : z < 100) (b : zB Z) : zB (z :: Z) := fun x hx => by
  cases hx with
  | head => exact h
  | tail _ hx => exact b x hx
theorem zB_s : ∀ {Z : List Nat}, zB Z → zB (sZ 9 Z)
  | [], b => b
  | z :: Z, b => by
    rw [sZ]
    split
    · exact zB_s (fun x hx => b x (List.mem_cons_of_mem _ hx))
    · exact b
theorem sZ_len : ∀ (w : Nat) (Z : List Nat), (sZ w Z).length ≤ Z.length
  | _, [] => Nat.le_refl _
  | w, z :: Z => by
    rw [sZ]
    split
    · exact Nat.le_succ_of_le (sZ_len w Z)
    · exact Nat.le_refl _
theorem sC_len : ∀ (w : Nat) (Z : List Nat) (C : gSg), (sC w Z C).length + (sZ w Z).length = C.length + Z.length
  | _, [], _ => rfl
  | w, z :: Z, C => by
    rw [sC, sZ]
    split
    · rw [sC_len w Z, List.length_append]
      show C.length + 1 + Z.length = C.length + (Z.length + 1)
      omega
    · rfl
def az (a : Bool) : List Nat := if a = true then [10] else []
def ac (a : Bool) : gSg := if a = true then [(10, 0)] else []
def wz (w : Nat) : List Nat := if w = 11 then [11] else []
/-- the bottom of a condition's pending ones: none, or a bracket -/
def zE (Z : List Nat) : Prop := Z = [] ∨ ∃ Z', Z = 12 :: Z'
theorem s10 {a : Bool} {w : Nat} {Z : List Nat} {C : gSg} (hw : w = 0 ∨ w = 11) (hz : zE Z) : sZ 10 (az a ++ (wz w ++ Z)) = wz w ++ Z ∧ sC 10 (az a ++ (wz w ++ Z)) C = C ++ ac a := by
  have base : ∀ C : gSg, sZ 10 (wz w ++ Z) = wz w ++ Z ∧ sC 10 (wz w ++ Z) C = C := by
    intro C
    rcases hw with q | q
    · rcases hz with z | ⟨Z', z⟩
      · rw [q, z]; exact ⟨rfl, rfl⟩
      · rw [q, z]; exact ⟨rfl, rfl⟩
    · rw [q]; exact ⟨rfl, rfl⟩
  cases a with
  | true =>
    have := base (C ++ [(nI 10, 0)])
    exact ⟨this.1, this.2⟩
  | false =>
    have := base C
    exact ⟨this.1, this.2.trans (List.append_nil C).symm⟩
theorem s11 {w : Nat} {Z : List Nat} {C : gSg} (hw : w = 0 ∨ w = 11) (hz : zE Z) : sZ 11 (wz w ++ Z) = Z ∧ sC 11 (wz w ++ Z) C = C ++ wt w := by
  rcases hw with q | q
  · rcases hz with z | ⟨Z', z⟩
    · rw [q, z]; exact ⟨rfl, (List.append_nil C).symm⟩
    · rw [q, z]; exact ⟨rfl, (List.append_nil C).symm⟩
  · rcases hz with z | ⟨Z', z⟩
    · rw [q, z]; exact ⟨rfl, rfl⟩
    · rw [q, z]; exact ⟨rfl, rfl⟩
theorem X_ac (a : Bool) : X (ac a) = ac a := by cases a <;> rfl
theorem len_aw {a : Bool} {w : Nat} {Z : List Nat} : (az a ++ (wz w ++ Z)).length = (ac a).length + (wz w).length + Z.length := by
  rw [List.length_append, List.length_append]
  cases a <;> simp [az, ac] <;> omega
theorem wz_l {w : Nat} (hw : w = 0 ∨ w = 11) : (wz w).length = wl w := by
  rcases hw with q | q <;> rw [q] <;> rfl
theorem ac_l (a : Bool) : (ac a).length ≤ 1 := by cases a <;> decide
theorem oZ_aw {a : Bool} {w : Nat} {Z : List Nat} (hw : w = 0 ∨ w = 11) : oZ (az a ++ (wz w ++ Z)) = oZ Z ∧ bZ (az a ++ (wz w ++ Z)) = bZ Z := by
  rcases hw with q | q <;> rw [q] <;> cases a <;> exact ⟨rfl, rfl⟩
theorem zB_aw {a : Bool} {w : Nat} {Z : List Nat} (b : zB Z) : zB (az a ++ (wz w ++ Z)) := by
  intro z hz
  rcases List.mem_append.mp hz with h | h
  · unfold az at h
    split at h
    · simp at h; omega
    · cases h
  · rcases List.mem_append.mp h with h | h
    · unfold wz at h
      split at h
      · simp at h; omega
      · cases h
    · exact b z h
section MAN
variable {E : gk_E} {d : Nat} {h0 : gk_H} {n : Nat} {s : Nat → Nat} {K : Int32 → gk_H → Prop}
/-- behind a condition: a bracket shuts, or all is read -/
def mFin (E : gk_E) (d : Nat) (K : Int32 → gk_H → Prop) (b : Nat) (h_9 : gk_H) : Prop := (¬ nI b = 0 → (gk_ci E (d + 8) jmo_isSign [.ref 112, .int (41 : Int32)] h_9 (fun r_11 h_10 => (¬ r_11 = 0 → (∀ h_12 : gk_H, h_12 = gk_hf h_10 112 27 ((h_10.1 112 27) - (1 : Int32)) → (∀ x1_13 : Int32, x1_13 = (nI b - (1 : Int32)) → (∀ h_14 : gk_H, h_14 = gk_hf h_12 112 25 ((h_12.1 112 25) - (1 : Int32)) → (gk_cv E (d + 8) jmo_settles [.ref 112, .int (9 : Int32)] h_14 (fun h_15 => gk_cv E (d + 8) jmo_reads [.ref 112] h_15 (fun h_16 => g_mo_readAny_9 E (d + 8) (gk_qi K) x1_13 0 h_16))))))) ∧ (r_11 = 0 → (gk_ci E (d + 8) jmo_errs [.ref 112, .int (1 : Int32)] h_10 (fun r_18 h_17 => gk_qi K (some (.int r_18)) h_17)))))) ∧ (nI b = 0 → (gk_qi K (some (.int (0 : Int32))) h_9))
def mOne (E : gk_E) (d : Nat) (h0 : gk_H) (s : Nat → Nat) (n : Nat) (K : Int32 → gk_H → Prop) (m : Nat) : Prop := ∀ (p : Nat) (c : gSg) (Z : List Nat) (h : gk_H), m + oZ Z = 8 → Z.length + 3 * m ≤ 36 → zB Z → (X c).length + Z.length ≤ p → RS h0 h s n p (X c) Z → OC (pOne (tkT s n) m p c) (fun e => ∀ h', RSf h0 h' e → K (-1) h') (fun x => ∀ h', RS h0 h' s n x.1 (sC 9 Z (X x.2)) (sZ 9 Z) → g_mo_readAny_9 E (d + 8) (gk_qi K) (nI (bZ Z)) 0 h') → g_mo_readAny_9 E (d + 8) (gk_qi K) (nI (bZ Z)) 1 h
theorem m_cnd (o : okK (tkT s n) n) (tm : TMs h0 n s) (wr : wordsR h0) {m : Nat} (hone : mOne E d h0 s n K m) {Z : List Nat} (hz : zE Z) (hb : zB Z) (hm : m + oZ Z = 8) (hl : Z.length + 2 + 3 * m ≤ 36) : ∀ (f q : Nat) (c : gSg) (a : Bool) (w : Nat) (h : gk_H), n - q ≤ f → (w = 0 ∨ w = 11) → (X c).length + (ac a).length + wl w + Z.length ≤ q → RS h0 h s n q (X c) (az a ++ (wz w ++ Z)) → OC (pCnd (tkT s n) (pOne (tkT s n) m) f w q (c ++ ac a)) (fun e => ∀ h', RSf h0 h' e → K (-1) h') (fun x => ∀ h', RS h0 h' s n x.1 (X x.2) Z → mFin E d K (bZ Z) h') → g_mo_readAny_9 E (d + 8) (gk_qi K) (nI (bZ Z)) 0 h := by
  have h4 := tm.1
  intro f
  have other : ∀ (q : Nat) (c : gSg) (a : Bool) (w : Nat) (h : gk_H), (w = 0 ∨ w = 11) → (X c).length + (ac a).length + wl w + Z.length ≤ q → RS h0 h s n q (X c) (az a ++ (wz w ++ Z)) → ¬ tK s n q = 105 → ¬ tK s n q = 104 → (∀ h', RS h0 h' s n q (X ((c ++ ac a) ++ wt w)) Z → mFin E d K (bZ Z) h') → g_mo_readAny_9 E (d + 8) (gk_qi K) (nI (bZ Z)) 0 h := by
    intro q c a w h hw hlq st n5 n4 k
    have hq := st.1
    have l1 : (az a ++ (wz w ++ Z)).length = (ac a).length + wl w + Z.length := by rw [len_aw, wz_l hw]
    have al := ac_l a
    have wll : wl w ≤ 1 := by unfold wl; split <;> omega
    refine x_mo_readAny_9 (yT rfl (s_mo_isWord (d := d + 7) (w := 5) st.2.2.1 (by decide) (fun z => absurd z n5) (fun _ => yT rfl (s_mo_isWord (d := d + 7) (w := 4) st.2.2.1 (by decide) (fun z => absurd z n4) (fun _ => yT rfl ?_)))))
    refine s_mo_settles (d := d + 6) (w := 10) (by omega) (zB_aw hb) (by omega) (by omega) st (fun h1 st1 => ?_)
    rw [(s10 hw hz (C := X c)).1, (s10 hw hz (C := X c)).2] at st1
    refine s_mo_settles (d := d + 6) (w := 11) (by omega) (show zB (wz w ++ Z) from zB_aw (a := false) hb) ?_ ?_ st1 (fun h2 st2 => ?_)
    · rw [List.length_append, wz_l hw]; omega
    · rw [List.length_append, List.length_append, wz_l hw]; omega
    · rw [(s11 hw hz (C := X c ++ ac a)).1, (s11 hw hz (C := X c ++ ac a)).2] at st2
      refine k h2 ?_
      rw [X_app, X_app, X_ac, X_wt (by omega)]; exact st2
  induction f with
  | zero =>
    intro q c a w h hf hw hlq st k
    have z := tK_c s n q
    rw [pCnd] at k
    exact other q c a w h hw hlq st (by omega) (by omega) k
  | succ f ih =>
    intro q c a w h hf hw hlq st k
    have hq := st.1
    have l1 : (az a ++ (wz w ++ Z)).length = (ac a).length + wl w + Z.length := by rw [len_aw, wz_l hw]
    have al := ac_l a
    have wll : wl w ≤ 1 := by unfold wl; split <;> omega
    rw [pCnd] at k
    by_cases z5 : tK s n q = 105
    · rw [if_pos (show (tkT s n).1 q = 105 from z5)] at k
      have hqn : q < n := by have := tK_c s n q; omega
      have hnx := nxp_b (s := s) hqn
      refine x_mo_readAny_9 (yT rfl (s_mo_isWord (d := d + 7) (w := 5) st.2.2.1 (by decide) (fun _ => yF (by decide) ?_) (fun z => absurd z5 z)))
      refine s_mo_settles (d := d + 6) (w := 10) (by omega) (zB_aw hb) (by omega) (by omega) st (fun h1 st1 => ?_)
      rw [(s10 hw hz (C := X c)).1, (s10 hw hz (C := X c)).2] at st1
      refine s_mo_waits (d := d + 7) (z := 10) st1 (by rw [List.length_append, wz_l hw]; omega) (by omega) (fun h2 st2 => s_rs_reads (d := d + 4) tm wr st2 (fun h3 st3 => fe ?_))
      have oz := oZ_aw (a := true) (w := w) (Z := Z) hw
      have l2 : (az true ++ (wz w ++ Z)).length = 1 + wl w + Z.length := by rw [len_aw, wz_l hw]; rfl
      have lc : (X (c ++ ac a)).length = (X c).length + (ac a).length := by rw [X_app, X_ac, List.length_append]
      have goal := hone (nxp s n q) (c ++ ac a) (az true ++ (wz w ++ Z)) h3 (by rw [oz.1]; exact hm) (by omega) (zB_aw hb) (by omega) (by rw [X_app, X_ac]; exact st3) (OC_bi k (fun e H => H) (fun x ex H h4' st4 => ?_))
      · rw [oz.2] at goal
        exact goal
      · rw [oz.2]
        obtain ⟨v1, v2, v3⟩ := bOne o m _ _ (1 + wl w + Z.length) x hnx.2 (by show _ ≤ nxp s n q; omega) ex
        refine ih x.1 x.2 true w h4' (by have : nxp s n q ≤ x.1 := v3; omega) hw ?_ st4 H
        show (X x.2).length + 1 + wl w + Z.length ≤ x.1
        omega
    · rw [if_neg (show ¬ (tkT s n).1 q = 105 from z5)] at k
      by_cases z4 : tK s n q = 104
      · rw [if_pos (show (tkT s n).1 q = 104 from z4)] at k
        have hqn : q < n := by have := tK_c s n q; omega
        have hnx := nxp_b (s := s) hqn
        refine x_mo_readAny_9 (yT rfl (s_mo_isWord (d := d + 7) (w := 5) st.2.2.1 (by decide) (fun z => absurd z z5) (fun _ => yT rfl (s_mo_isWord (d := d + 7) (w := 4) st.2.2.1 (by decide) (fun _ => yF (by decide) ?_) (fun z => absurd z4 z)))))
        refine s_mo_settles (d := d + 6) (w := 10) (by omega) (zB_aw hb) (by omega) (by omega) st (fun h1 st1 => ?_)
        rw [(s10 hw hz (C := X c)).1, (s10 hw hz (C := X c)).2] at st1
        refine s_mo_settles (d := d + 6) (w := 11) (by omega) (show zB (wz w ++ Z) from zB_aw (a := false) hb) ?_ ?_ st1 (fun h2 st2 => ?_)
        · rw [List.length_append, wz_l hw]; omega
        · rw [List.length_append, List.length_append, wz_l hw]; omega
        · rw [(s11 hw hz (C := X c ++ ac a)).1, (s11 hw hz (C := X c ++ ac a)).2] at st2
          refine s_mo_waits (d := d + 7) (z := 11) st2 (by omega) (by omega) (fun h3 st3 => s_rs_reads (d := d + 4) tm wr st3 (fun h5 st5 => fe ?_))
          have oz := oZ_aw (a := false) (w := 11) (Z := Z) (Or.inr rfl)
          have lc : (X ((c ++ ac a) ++ wt w)).length = (X c).length + (ac a).length + wl w := by rw [X_app, X_app, X_ac, X_wt (by omega), List.length_append, List.length_append, wt_l]
          have l2 : (az false ++ (wz 11 ++ Z)).length = 1 + Z.length := by rw [len_aw]; show 0 + 1 + Z.length = _; omega
          have goal := hone (nxp s n q) ((c ++ ac a) ++ wt w) (az false ++ (wz 11 ++ Z)) h5 (by rw [oz.1]; exact hm) (by omega) (zB_aw hb) (by omega) (by rw [X_app, X_app, X_ac, X_wt (by omega)]; exact st5) (OC_bi k (fun e H => H) (fun x ex H h4' st4 => ?_))
          · rw [oz.2] at goal
            exact goal
          · rw [oz.2]
            obtain ⟨v1, v2, v3⟩ := bOne o m _ _ (1 + Z.length) x hnx.2 (by show _ ≤ nxp s n q; omega) ex
            refine ih x.1 x.2 false 11 h4' (by have : nxp s n q ≤ x.1 := v3; omega) (Or.inr rfl) ?_ st4 (by rw [show x.2 ++ ac false = x.2 from List.append_nil _]; exact H)
            show (X x.2).length + 0 + 1 + Z.length ≤ x.1
            omega
      · rw [if_neg (show ¬ (tkT s n).1 q = 104 from z4)] at k
        exact other q c a w h hw hlq st z5 z4 k
theorem m_one (o : okK (tkT s n) n) (tm : TMs h0 n s) (wr : wordsR h0) : ∀ m, mOne E d h0 s n K m := by
  have h4 := tm.1
  have cmp : ∀ (p : Nat) (c : gSg) (Z : List Nat) (h : gk_H), ¬ tK s n p = 106 → ¬ tK s n p = 40 → Z.length ≤ 36 → zB Z → (X c).length + Z.length ≤ p → RS h0 h s n p (X c) Z → OC (pCmp (tkT s n) p c) (fun e => ∀ h', RSf h0 h' e → K (-1) h') (fun x => ∀ h', RS h0 h' s n x.1 (sC 9 Z (X x.2)) (sZ 9 Z) → g_mo_readAny_9 E (d + 8) (gk_qi K) (nI (bZ Z)) 0 h') → g_mo_readAny_9 E (d + 8) (gk_qi K) (nI (bZ Z)) 1 h := by
    intro p c Z h n6 n40 hl hb hlp st k
    refine x_mo_readAny_9 (yF (by decide) (s_mo_isWord (d := d + 7) (w := 6) st.2.2.1 (by decide) (fun z => absurd z n6) (fun _ => fe (zT rfl (s_mo_isSign (d := d + 7) (c := 40) st.2.2.1 (by decide) (by decide) (fun z => absurd z n40) (fun _ => yT rfl ?_))))))
    refine s_mo_readCompared (d := d) o (RS_tm tm st) (RS_wr wr st) (RS_rc st) (by omega) (OC_mo k (fun e H h' q' => zT rfl (H h' (RS_f st q'))) (fun x ex H h' r' => zF (by decide) ?_))
    obtain ⟨v1, v2, v3⟩ := bCmp o (j := Z.length) hlp ex
    exact s_mo_settles (d := d + 6) (w := 9) (by omega) hb (by omega) (by omega) (RS_RC st r') (fun h2 st2 => fe (H h2 st2))
  intro m
  induction m with
  | zero =>
    intro p c Z h hm hl hb hlp st k
    rw [pOne] at k
    have e8 : h.1 112 25 = 8 := by rw [st.2.2.2.2.1, show oZ Z = 8 by omega]; rfl
    by_cases z6 : tK s n p = 106
    · rw [if_pos (show (tkT s n).1 p = 106 ∨ (tkT s n).1 p = 40 from Or.inl z6)] at k
      exact x_mo_readAny_9 (yF (by decide) (s_mo_isWord (d := d + 7) (w := 6) st.2.2.1 (by decide) (fun _ => fe (zF (by decide) (zT e8 (s_rs_errs (d := d + 7) (f := 3) st (fun h' q' => k h' q'))))) (fun z => absurd z6 z)))
    · by_cases z40 : tK s n p = 40
      · rw [if_pos (show (tkT s n).1 p = 106 ∨ (tkT s n).1 p = 40 from Or.inr z40)] at k
        exact x_mo_readAny_9 (yF (by decide) (s_mo_isWord (d := d + 7) (w := 6) st.2.2.1 (by decide) (fun z => absurd z z6) (fun _ => fe (zT rfl (s_mo_isSign (d := d + 7) (c := 40) st.2.2.1 (by decide) (by decide) (fun _ => yF (by decide) (zT e8 (s_rs_errs (d := d + 7) (f := 3) st (fun h' q' => k h' q')))) (fun z => absurd z40 z))))))
      · rw [if_neg (show ¬ ((tkT s n).1 p = 106 ∨ (tkT s n).1 p = 40) from fun y => y.elim z6 z40)] at k
        exact cmp p c Z h z6 z40 (by omega) hb hlp st k
  | succ m ih =>
    intro p c Z h hm hl hb hlp st k
    rw [pOne] at k
    have ole := oZ_le Z
    have e25 := st.2.2.2.2.1
    have e8 : ¬ h.1 112 25 = 8 := by
      rw [e25]
      intro y
      have := (nI_eq (b := 8) (by omega) (by decide)).mp y
      omega
    by_cases z6 : tK s n p = 106
    · rw [if_pos (show (tkT s n).1 p = 106 from z6)] at k
      have hpn : p < n := by have := tK_c s n p; omega
      have hnx := nxp_b (s := s) hpn
      refine x_mo_readAny_9 (yF (by decide) (s_mo_isWord (d := d + 7) (w := 6) st.2.2.1 (by decide) (fun _ => fe (zF (by decide) (zF e8 ?_))) (fun z => absurd z6 z)))
      rw [e25, nI_1]
      refine fe (zF (by decide) (yF (by decide) (s_mo_waits2 (d := d + 7) (z := 9) st (by omega) (Or.inl rfl) (fun h1 st1 => s_rs_reads (d := d + 4) tm wr st1 (fun h2 st2 => ?_)))))
      exact ih (nxp s n p) c (9 :: Z) h2 (by show m + (oZ Z + 1) = 8; omega) (by show Z.length + 1 + 3 * m ≤ 36; omega) (zB_c (by decide) hb) (by show (X c).length + (Z.length + 1) ≤ _; omega) st2 (OC_bi k (fun e H => H) (fun x ex H h' st' => H h' (by rw [X_app]; exact st')))
    · rw [if_neg (show ¬ (tkT s n).1 p = 106 from z6)] at k
      by_cases z40 : tK s n p = 40
      · rw [if_pos (show (tkT s n).1 p = 40 from z40)] at k
        have hpn : p < n := by have := tK_c s n p; omega
        have hnx := nxp_b (s := s) hpn
        have eb : nI (bZ Z) + 1 = nI (bZ (12 :: Z)) := by rw [nI_1]; rfl
        refine x_mo_readAny_9 (yF (by decide) (s_mo_isWord (d := d + 7) (w := 6) st.2.2.1 (by decide) (fun z => absurd z z6) (fun _ => fe (zT rfl (s_mo_isSign (d := d + 7) (c := 40) st.2.2.1 (by decide) (by decide) (fun _ => yF (by decide) (zF e8 ?_)) (fun z => absurd z40 z))))))
        rw [e25, nI_1, eb]
        refine fe (zT rfl (fe (yT rfl (s_mo_waits2 (d := d + 7) (z := 12) st (by omega) (Or.inr rfl) (fun h1 st1 => s_rs_reads (d := d + 4) tm wr st1 (fun h2 st2 => ?_))))))
        have k1 : OC ((pOne (tkT s n) m ((tkT s n).2.2 p) c).bind (fun x => (pCnd (tkT s n) (pOne (tkT s n) m) 400 0 x.1 x.2).bind (fun y => (pT (tkT s n) 41 y.1).bind (fun q => (.ok (q, y.2) : pRe (Nat × gSg)))))) (fun e => ∀ h', RSf h0 h' e → K (-1) h') (fun x => ∀ h', RS h0 h' s n x.1 (sC 9 Z (X x.2)) (sZ 9 Z) → g_mo_readAny_9 E (d + 8) (gk_qi K) (nI (bZ Z)) 0 h') := by
          cases eo : pOne (tkT s n) m ((tkT s n).2.2 p) c with
          | error e => rw [eo] at k; exact k
          | ok x => rw [eo] at k; exact k
        refine ih (nxp s n p) c (12 :: Z) h2 (by show m + (oZ Z + 1) = 8; omega) (by show Z.length + 1 + 3 * m ≤ 36; omega) (zB_c (by decide) hb) (by show (X c).length + (Z.length + 1) ≤ _; omega) st2 (OC_bi k1 (fun e H => H) (fun x ex H h' st' => ?_))
        obtain ⟨v1, v2, v3⟩ := bOne o m _ _ (Z.length + 1) x hnx.2 (by show _ ≤ nxp s n p; omega) ex
        refine m_cnd o tm wr ih (Z := 12 :: Z) (Or.inr ⟨Z, rfl⟩) (zB_c (by decide) hb) (by show m + (oZ Z + 1) = 8; omega) (by show Z.length + 1 + 2 + 3 * m ≤ 36; omega) 400 x.1 x.2 false 0 h' (by omega) (Or.inl rfl) (by show (X x.2).length + 0 + 0 + (Z.length + 1) ≤ x.1; omega) st' ?_
        rw [show x.2 ++ ac false = x.2 from List.append_nil _]
        refine OC_bi H (fun e H => H) (fun y ey H2 h5 st5 => zF ?_ ?_)
        · intro y0
          have := (nI_eq (a := bZ (12 :: Z)) (b := 0) (by have := bZ_le (12 :: Z); have l : (12 :: Z).length = Z.length + 1 := rfl; omega) (by decide)).mp y0
          have e1 : bZ (12 :: Z) = bZ Z + 1 := rfl
          omega
        · obtain ⟨w1, w2, w3⟩ := bCnd o (bOne o m) 400 0 x.1 x.2 (Z.length + 1) y v2 (Or.inl rfl) v1 ey
          unfold pT at H2
          refine s_mo_isSign (d := d + 7) (c := 41) st5.2.2.1 (by decide) (by decide) (fun z => zF (by decide) ?_) (fun z => zT rfl ?_)
          · rw [if_pos (show (tkT s n).1 y.1 = 41 from z)] at H2
            obtain ⟨hp5, md5, rt5, mc5, a25, a27, mp5⟩ := st5
            have a27 : h5.1 112 27 = nI (Z.length + 1) := a27
            have a25 : h5.1 112 25 = nI (oZ Z + 1) := a25
            rw [a27, show nI (Z.length + 1) - 1 = nI Z.length from pk_sub (a := Z.length + 1) (b := 1) (by omega), show nI (bZ (12 :: Z)) - 1 = nI (bZ Z) from pk_sub (a := bZ Z + 1) (b := 1) (by omega)]
            refine fe (fe ?_)
            have x25 : (gk_hf h5 112 27 (nI Z.length)).1 112 25 = nI (oZ Z + 1) := by rw [hf_f, if_neg (by decide)]; exact a25
            rw [x25, show nI (oZ Z + 1) - 1 = nI (oZ Z) from pk_sub (a := oZ Z + 1) (b := 1) (by omega)]
            refine fe (s_mo_settles (d := d + 6) (w := 9) (by omega) hb (by omega) (C := X y.2) (Z := Z) (by omega) ⟨hp5, MD2_hf (MD2_hf md5 (by unfold mF2; omega)) (by unfold mF2; omega), RTk_hf (by decide) (RTk_hf (h := h5) (by decide) rt5), ⟨?_, mc5.2⟩, ?_, ?_, MPs_eq (h := h5) Z (fun i _ => rfl) mp5.2⟩ (fun h6 st6 => s_rs_reads (d := d + 4) tm wr st6 (fun h7 st7 => H2 h7 st7)))
            · rw [hf_f, if_neg (by decide), hf_f, if_neg (by decide)]; exact mc5.1
            · rw [hf_f, if_pos ⟨rfl, rfl⟩]
            · rw [hf_f, if_neg (by decide), hf_f, if_pos ⟨rfl, rfl⟩]
          · rw [if_neg (show ¬ (tkT s n).1 y.1 = 41 from z)] at H2
            exact s_rs_errs (d := d + 7) (f := 1) st5 (fun h' q' => H2 h' q')
      · rw [if_neg (show ¬ (tkT s n).1 p = 40 from z40)] at k
        exact cmp p c Z h z6 z40 (by omega) hb hlp st k
theorem s_mo_readAny {h : gk_H} {p : Nat} {c : gSg} (o : okK (tkT s n) n) (tm : TMs h0 n s) (wr : wordsR h0) (hl : (X c).length ≤ p) (hp : p ≤ n) (md : MD2 h0 h) (rt : RTk h n s p) (mc : MCo h (X c)) (e25 : h.1 112 25 = 0) (k : OC (pAny (tkT s n) 8 p c) (fun e => ∀ h', RSf h0 h' e → K (-1) h') (fun x => ∀ h', RS h0 h' s n x.1 (X x.2) [] → K 0 h')) : gk_ci E (d + 9) jmo_readAny [.ref 112] h K := by
  have h4 := tm.1
  unfold pAny at k
  refine gk_ci_mk (x_mo_readAny (fe (fe (fe ?_))))
  refine m_one (d := d) (K := K) o tm wr 8 p c [] (gk_hf h 112 27 0) rfl (by decide) (fun z hz => by cases hz) hl ⟨hp, MD2_hf md (by unfold mF2; omega), RTk_hf (by decide) rt, ⟨?_, mc.2⟩, ?_, ?_, trivial⟩ (OC_bi k (fun e H => H) (fun x ex H h' st' => ?_))
  · rw [hf_f, if_neg (by decide)]; exact mc.1
  · rw [hf_f, if_neg (by decide)]; exact e25
  · rw [hf_f, if_pos ⟨rfl, rfl⟩]; rfl
  · obtain ⟨v1, v2, v3⟩ := bOne o 8 _ _ 0 x hp (by omega) ex
    refine m_cnd (d := d) o tm wr (m_one (d := d) o tm wr 8) (Z := []) (Or.inl rfl) (fun z hz => by cases hz) rfl (by decide) 400 x.1 x.2 false 0 h' (by omega) (Or.inl rfl) (by show (X x.2).length + 0 + 0 + 0 ≤ x.1; omega) st' ?_
    rw [show x.2 ++ ac false = x.2 from List.append_nil _]
    exact OC_mo H (fun e H => H) (fun y ey H2 h5 st5 => zT rfl (H2 h5 st5))
end MAN
