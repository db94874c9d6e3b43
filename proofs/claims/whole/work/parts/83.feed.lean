/-! feed and end -/
theorem inv_rest {S : Nat → Prop} {h h' : gk_H} (I : InvX h) (a : fr S h h') (hS : ∀ k, S k → ¬ (1 ≤ k ∧ k ≤ 6) ∧ ¬ k = 20 ∧ ¬ (22 ≤ k ∧ k ≤ 57) ∧ ¬ k = 113 ∧ ¬ k = 114) (e3 : h'.1 112 3 = h.1 112 3) (hr : ∀ c, RestX c h → RestX c h') : InvX h' := by
  obtain ⟨c, f, n, ws, rs, hc, hm, hrr, hw, hrest⟩ := I
  have n114 : ¬ S 114 := fun q => (hS 114 q).2.2.2.2 rfl
  have n113 : ¬ S 113 := fun q => (hS 113 q).2.2.2.1 rfl
  refine ⟨c, f, n, ws, rs, cU_fr (S := S) (fun k hk q => ?_) a hc, mU_of e3 (a 114 n114).2.1 hm, hrr, ?_, hr c hrest⟩
  · have := hS k q
    rcases hk with z | z
    · exact this.2.1 z
    · exact this.2.2.1 ⟨z.1, by omega⟩
  · rw [wv_fr a (fun i hi q => (hS _ q).1 (by omega))]
    have : rv h' 113 0 = rv h 113 0 := rv_eq fun j _ => by rw [(a 113 n113).2.1]
    rw [this]; exact hw
def chN (v : Int32) (z : Nat) : Nat := v.toBitVec.toNat / 2 ^ z % 256
theorem chN_lt (v : Int32) (z : Nat) : chN v z < 256 := Nat.mod_lt _ (by decide)
theorem bI_255 : ∀ c, c < 32 → nb_bit 255 c = decide (c < 8) := by decide +kernel
theorem ch_m (v : Int32) {z : Nat} (hz : z ≤ 24) : (v >>> (nI z &&& 31)) &&& 255 = nI (chN v z) := by
  refine bI_ext fun c hc => ?_
  rw [bI_and, bI_255 c hc, bI_nI (Nat.lt_trans (chN_lt v z) (by decide))]
  unfold chN
  rw [show (256 : Nat) = 2 ^ 8 from rfl, Nat.testBit_mod_two_pow, Nat.testBit_div_two_pow]
  by_cases q : c < 8
  · rw [bI_sshr v (by omega) (by omega), decide_eq_true q, Bool.and_true, Bool.true_and, nb_bit_toNat]
  · rw [decide_eq_false q]; simp
theorem ch_c (v s : Int32) {z : Nat} (hs : ((s.toUInt32 &&& Int32.toUInt32 31).toBitVec % 32).toNat = z) : vp_nar .char (((((v.toUInt32 >>> (s.toUInt32 &&& Int32.toUInt32 31)).toInt32) &&& (255 : Int32)).toUInt32 % 65536).toInt32) = nI (chN v z) := by
  rw [pk_vc, pk_char, pk_and _ (m := 255) 8 (by decide +kernel), pk_ushr v s z hs]
  have l := chN_lt v z
  unfold chN at *
  rw [pk_tn (by omega)]
  congr 1
  omega
def apT (tp : Nat → Nat) (n : Nat) (v : Int32) (j k : Nat) : Nat := if n ≤ k ∧ k < n + j then chN v (24 - 8 * (k - n)) else tp k
theorem apT_0 {tp : Nat → Nat} {n : Nat} {v : Int32} : apT tp n v 0 = tp := by
  funext k
  unfold apT
  rw [if_neg (by omega)]
theorem apT_lt {tp : Nat → Nat} {n j : Nat} {v : Int32} (h : ∀ k, k < n → tp k < 256) : ∀ k, k < n + j → apT tp n v j k < 256 := by
  intro k hk
  unfold apT
  split
  · exact chN_lt _ _
  · exact h k (by omega)
def TC (h : gk_H) (n : Nat) (tp : Nat → Nat) : Prop := h.1 58 4 = nI n ∧ ∀ k, k < n → h.2.1 59 k = nI (tp k)
def TM (h : gk_H) (n : Nat) (tp : Nat → Nat) : Prop := h.1 112 10 = nI n ∧ ∀ k, k < n → h.2.1 118 k = nI (tp k)
theorem sh24 : ∀ j, j < 4 → ¬ nI 24 - nI (8 * j) < 0 ∧ (((nI 24 - nI (8 * j)).toUInt32 &&& Int32.toUInt32 31).toBitVec % 32).toNat = 24 - 8 * j ∧ nI 24 - nI (8 * j) = nI (24 - 8 * j) ∧ nI 24 - nI (8 * j) + (-8) = nI 24 - nI (8 * (j + 1)) := by decide +kernel
theorem ap_next {tp : Nat → Nat} {n j : Nat} {v : Int32} {f : Nat → Int32} (h : ∀ k, k < n + j → f k = nI (apT tp n v j k)) : ∀ k, k < n + (j + 1) → (if k = n + j then nI (chN v (24 - 8 * j)) else f k) = nI (apT tp n v (j + 1) k) := by
  intro k hk
  by_cases z : k = n + j
  · rw [if_pos z]
    unfold apT
    rw [if_pos (by omega), z, Nat.add_sub_cancel_left]
  · rw [if_neg z, h k (by omega)]
    unfold apT
    by_cases y : n ≤ k ∧ k < n + j
    · rw [if_pos y, if_pos (by omega)]
    · rw [if_neg y, if_neg (by omega)]
section FEED
variable {E : gk_E} {d : Nat} {h : gk_H} {K : gk_H → Prop}
def S_tc (k : Nat) : Prop := k = 58 ∨ k = 59
def S_tmm (k : Nat) : Prop := k = 112 ∨ k = 118
theorem s_ta_append {n : Nat} {tp : Nat → Nat} {v : Int32} (hn : n + 4 ≤ 400) (ht : TC h n tp) (hk : ∀ h', fr S_tc h h' → TC h' (n + 4) (apT tp n v 4) → K h') : gk_cv E (d + 1) jta_append [.ref 58, .int v] h K := by
  refine gk_cv_mk (x_ta_append (fe ?_))
  refine lp_up (N := 4) (fun j (s : gk_H) => g_ta_append_3 E d (gk_qv K) v (nI 24 - nI (8 * j)) s) (fun j s => fr S_tc h s ∧ TC s (n + j) (apT tp n v j)) ?_ ?_ 0 h (by decide) ⟨fr_rf, by rw [apT_0]; exact ht⟩
  · rintro j s hj ⟨i1, i2, i3⟩ ih
    obtain ⟨q1, q2, q3, q4⟩ := sh24 j hj
    refine x_ta_append_3 (yF q1 ?_)
    rw [i2]
    refine pk_le 400 (n + j) (fun q => by omega) (fun _ => ⟨vp_in_nI (by omega) (by decide), ?_⟩)
    rw [nI_clamp (by omega), ch_c v _ q2]
    refine fe (fe (fe ?_))
    rw [q4]
    refine ih _ ⟨fr_tr i1 (fr_tr (fr_ha (Or.inr rfl)) (fr_hf (Or.inl rfl))), ?_, fun k hk9 => ?_⟩
    · rw [hf_f, if_pos ⟨rfl, rfl⟩, ha_1, i2, nI_1]; rfl
    · show (gk_ha s 59 (n + j) _).2.1 59 k = _
      rw [OW_set]
      exact ap_next i3 k hk9
  · rintro s ⟨i1, i2⟩
    exact x_ta_append_3 (yT (by decide) (hk s i1 i2))
theorem s_mo_types {n : Nat} {tp : Nat → Nat} {v : Int32} (hn : n + 4 ≤ 400) (ht : TM h n tp) (hk : ∀ h', fr S_tmm h h' → (∀ s, ¬ s = 10 → h'.1 112 s = h.1 112 s) → TM h' (n + 4) (apT tp n v 4) → K h') : gk_cv E (d + 1) jmo_types [.ref 112, .int v] h K := by
  refine gk_cv_mk (x_mo_types (fe ?_))
  refine lp_up (N := 4) (fun j (s : gk_H) => g_mo_types_3 E d (gk_qv K) v (nI 24 - nI (8 * j)) s) (fun j s => fr S_tmm h s ∧ (∀ x, ¬ x = 10 → s.1 112 x = h.1 112 x) ∧ TM s (n + j) (apT tp n v j)) ?_ ?_ 0 h (by decide) ⟨fr_rf, fun _ _ => rfl, by rw [apT_0]; exact ht⟩
  · rintro j s hj ⟨i1, i0, i2, i3⟩ ih
    obtain ⟨q1, q2, q3, q4⟩ := sh24 j hj
    refine x_mo_types_3 (yF q1 ?_)
    rw [i2, q3, ch_m v (by omega), ← q3]
    refine ⟨vp_in_nI (by omega) (by decide), ?_⟩
    rw [nI_clamp (by omega)]
    refine fe (fe (fe ?_))
    rw [q4]
    refine ih _ ⟨fr_tr i1 (fr_tr (fr_ha (Or.inr rfl)) (fr_hf (Or.inl rfl))), fun x hx => ?_, ?_, fun k hk9 => ?_⟩
    · rw [hf_f, if_neg (fun w => hx w.2), ha_1]; exact i0 x hx
    · rw [hf_f, if_pos ⟨rfl, rfl⟩, ha_1, i2, nI_1]; rfl
    · show (gk_ha s 118 (n + j) _).2.1 118 k = _
      rw [OW_set]
      exact ap_next i3 k hk9
  · rintro s ⟨i1, i0, i2⟩
    exact x_mo_types_3 (yT (by decide) (hk s i1 i0 i2))
end FEED
theorem tape_of {h : gk_H} (t : tapeR h) : ∃ n tp, n ≤ 400 ∧ TC h n tp ∧ TM h n tp ∧ ∀ k, k < n → tp k < 256 := by
  obtain ⟨n, t1, t2, t3, t4⟩ := t
  refine ⟨n, fun k => (h.2.1 118 k).toNatClampNeg, t1, ⟨t2, fun k hk => ?_⟩, ⟨t3, fun k hk => ?_⟩, fun k hk => ?_⟩
  · obtain ⟨e, v, v1, v2⟩ := t4 k hk
    show h.2.1 59 k = nI (h.2.1 118 k).toNatClampNeg
    rw [e, v2, nI_clamp (by omega)]
  · obtain ⟨e, v, v1, v2⟩ := t4 k hk
    show h.2.1 118 k = nI (h.2.1 118 k).toNatClampNeg
    rw [v2, nI_clamp (by omega)]
  · obtain ⟨e, v, v1, v2⟩ := t4 k hk
    show (h.2.1 118 k).toNatClampNeg < 256
    rw [v2, nI_clamp (by omega)]; exact v1
theorem tape_to {h : gk_H} {n : Nat} {tp : Nat → Nat} (hn : n ≤ 400) (c : TC h n tp) (m : TM h n tp) (l : ∀ k, k < n → tp k < 256) : tapeR h := ⟨n, hn, c.1, m.1, fun k hk => ⟨by rw [c.2 k hk, m.2 k hk], tp k, l k hk, m.2 k hk⟩⟩
/-- the tape alone changed -/
theorem inv_tape {S : Nat → Prop} {h h' : gk_H} (I : InvX h) (a : fr S h h') (hS : ∀ k, S k → k = 58 ∨ k = 59 ∨ k = 112 ∨ k = 118) (z : ∀ s, ¬ s = 0 → ¬ s = 10 → h'.1 112 s = h.1 112 s) (t : tapeR h') : InvX h' := by
  refine inv_rest I a (fun k q => by have := hS k q; omega) (z 3 (by decide) (by decide)) fun c r => ?_
  have e : ∀ k, ¬ (k = 58 ∨ k = 59 ∨ k = 112 ∨ k = 118) → eqc h h' k := fun k hk => a k (fun q => hk (hS k q))
  obtain ⟨⟨n, T, l1, l2, l3, l4, l5⟩, -, ⟨f1, f2⟩, i5, wr, im⟩ := r
  refine ⟨⟨n, T, by rw [z 6 (by decide) (by decide)]; exact l1, ?_, l3, CT_eq (fun i h1 h2 => e _ (by omega)) (e 19 (by omega)).2.1 l4, ?_⟩, t, ?_, by rw [z 5 (by decide) (by decide)]; exact i5, ?_, img_eq (e 0 (by omega)).1 (z 52 (by decide) (by decide)) (fun k h1 h2 => e k (by omega)) (e 144 (by omega)).2.1 im⟩
  · rw [(e 116 (by omega)).2.1]; exact l2
  · unfold MTl at *
    rw [z 32 (by decide) (by decide), z 34 (by decide) (by decide), z 36 (by decide) (by decide), (e 128 (by omega)).2.1, (e 129 (by omega)).2.1, (e 130 (by omega)).2.1, (e 120 (by omega)).2.1, (e 121 (by omega)).2.1, (e 122 (by omega)).2.1, (e 123 (by omega)).2.1, (e 124 (by omega)).2.1, (e 125 (by omega)).2.1, (e 126 (by omega)).2.1, (e 117 (by omega)).2.1]
    exact l5
  · rw [(e 63 (by omega)).1, z 30 (by decide) (by decide), z 31 (by decide) (by decide)]; exact ⟨f1, f2⟩
  · unfold wordsR; rw [(e 119 (by omega)).2.1]; exact wr
theorem Inv_tape {h : gk_H} (I : InvX h) : tapeR h := by
  obtain ⟨c, f, n, ws, rs, hc, hm, hrr, hw, hrest⟩ := I
  exact hrest.2.1
def S_fd (k : Nat) : Prop := k = 58 ∨ k = 59 ∨ k = 112 ∨ k = 118
theorem TM_fr {h h' : gk_H} {n : Nat} {tp : Nat → Nat} (a : fr S_tc h h') (t : TM h n tp) : TM h' n tp := by
  have e1 := (a 112 (by unfold S_tc; omega)).1
  have e2 := (a 118 (by unfold S_tc; omega)).2.1
  unfold TM at *
  rw [e1, e2]; exact t
theorem TC_fr {h h' : gk_H} {n : Nat} {tp : Nat → Nat} (a : fr S_tmm h h') (t : TC h n tp) : TC h' n tp := by
  have e1 := (a 58 (by unfold S_tmm; omega)).1
  have e2 := (a 59 (by unfold S_tmm; omega)).2.1
  unfold TC at *
  rw [e1, e2]; exact t
theorem lc_feed {E : gk_E} {d : Nat} (a0 a1 a2 a3 a4 : Int32) : lc_ok E (d + 2) InvX jdp_feed jmo_feed [.int a0, .int a1, .int a2, .int a3, .int a4] := by
  intro h I
  obtain ⟨n, tp, hn, tc, tm, tl⟩ := tape_of (Inv_tape I)
  by_cases q : n ≤ 380
  · obtain ⟨t1, e1⟩ : ∃ t, t = apT tp n a0 4 := ⟨_, rfl⟩
    obtain ⟨t2, e2⟩ : ∃ t, t = apT t1 (n + 4) a1 4 := ⟨_, rfl⟩
    obtain ⟨t3, e3⟩ : ∃ t, t = apT t2 (n + 8) a2 4 := ⟨_, rfl⟩
    obtain ⟨t4, e4⟩ : ∃ t, t = apT t3 (n + 12) a3 4 := ⟨_, rfl⟩
    obtain ⟨t5, e5⟩ : ∃ t, t = apT t4 (n + 16) a4 4 := ⟨_, rfl⟩
    have l1 : ∀ k, k < n + 4 → t1 k < 256 := by rw [e1]; exact apT_lt tl
    have l2 : ∀ k, k < n + 8 → t2 k < 256 := by rw [e2]; exact fun k hk => apT_lt (j := 4) l1 k (by omega)
    have l3 : ∀ k, k < n + 12 → t3 k < 256 := by rw [e3]; exact fun k hk => apT_lt (j := 4) l2 k (by omega)
    have l4 : ∀ k, k < n + 16 → t4 k < 256 := by rw [e4]; exact fun k hk => apT_lt (j := 4) l3 k (by omega)
    have l5 : ∀ k, k < n + 20 → t5 k < 256 := by rw [e5]; exact fun k hk => apT_lt (j := 4) l4 k (by omega)
    refine ⟨fun r h1 => r = nI (n + 20) ∧ fr S_tc h h1 ∧ TC h1 (n + 20) t5, fun K1 hK => ?_, fun r h1 hM K2 hK => ?_⟩
    · refine gk_ci_mk (x_dp_feed (gk_ci_mk (x_ta_hasSpaceForFive ?_)))
      unfold w_ta_hasSpaceForFive
      rw [tc.1, show nI n + 20 = nI (n + 20) from nI_add n 20]
      refine pk_lt 400 (n + 20) (fun z => by omega) (fun _ => ⟨Or.inr rfl, zF (by decide) ?_⟩)
      refine s_ta_append (by omega) tc fun h1 f1 c1 => s_ta_append (by omega) c1 fun h2 f2 c2 => s_ta_append (by omega) c2 fun h3 f3 c3 => s_ta_append (by omega) c3 fun h4 f4 c4 => s_ta_append (by omega) c4 fun h5 f5 c5 => ?_
      rw [← e1, ← e2, ← e3, ← e4, ← e5] at c5
      refine hK _ _ ⟨c5.1, fr_tr f1 (fr_tr f2 (fr_tr f3 (fr_tr f4 f5))), c5⟩
    · obtain ⟨rfl, f0, c0⟩ := hM
      have tm1 := TM_fr f0 tm
      have g0 : TM (gk_hf h1 112 0 0) n tp := ⟨by rw [hf_f, if_neg (by decide)]; exact tm1.1, tm1.2⟩
      refine gk_ci_mk (x_mo_feed ?_)
      unfold w_mo_feed
      rw [g0.1]
      refine pk_le n 380 (fun _ => ?_) (fun z => by omega)
      refine s_mo_types (by omega) g0 fun u1 f1 z1 c1 => s_mo_types (by omega) c1 fun u2 f2 z2 c2 => s_mo_types (by omega) c2 fun u3 f3 z3 c3 => s_mo_types (by omega) c3 fun u4 f4 z4 c4 => s_mo_types (by omega) c4 fun u5 f5 z5 c5 => ?_
      rw [← e1, ← e2, ← e3, ← e4, ← e5] at c5
      have ff : fr S_tmm (gk_hf h1 112 0 0) u5 := fr_tr f1 (fr_tr f2 (fr_tr f3 (fr_tr f4 f5)))
      have cc : TC u5 (n + 20) t5 := TC_fr ff (TC_fr (fr_hf (Or.inl rfl)) c0)
      rw [c5.1]
      refine hK _ (inv_tape (S := S_fd) I ?_ (fun k q => q) (fun s s0 s10 => ?_) (tape_to (by omega) cc c5 l5))
      · exact fr_tr (fr_mo f0 (fun k q => by unfold S_tc at q; unfold S_fd; omega)) (fr_tr (fr_hf (by unfold S_fd; omega)) (fr_mo ff (fun k q => by unfold S_tmm at q; unfold S_fd; omega)))
      · rw [z5 s s10, z4 s s10, z3 s s10, z2 s s10, z1 s s10, hf_f, if_neg (fun w => s0 w.2), (f0 112 (by unfold S_tc; omega)).1]
  · refine ⟨fun r h1 => r = -1 ∧ h1 = h, fun K1 hK => ?_, fun r h1 hM K2 hK => ?_⟩
    · refine gk_ci_mk (x_dp_feed (gk_ci_mk (x_ta_hasSpaceForFive ?_)))
      unfold w_ta_hasSpaceForFive
      rw [tc.1, show nI n + 20 = nI (n + 20) from nI_add n 20]
      exact pk_lt 400 (n + 20) (fun z => ⟨Or.inl rfl, zT rfl (hK _ _ ⟨rfl, rfl⟩)⟩) (fun z => by omega)
    · obtain ⟨rfl, rfl⟩ := hM
      refine gk_ci_mk (x_mo_feed ?_)
      unfold w_mo_feed
      have g0 : (gk_hf h1 112 0 0).1 112 10 = nI n := by rw [hf_f, if_neg (by decide)]; exact tm.1
      rw [g0]
      exact pk_le n 380 (fun z => by omega) (fun z => hK _ (Inv_Qs Qs_t I))
theorem lc_end {E : gk_E} {d : Nat} (a0 : Int32) : lc_ok E (d + 2) InvX jdp_end jmo_end [.int a0] := by
  intro h I
  obtain ⟨n, tp, hn, tc, tm, tl⟩ := tape_of (Inv_tape I)
  by_cases q : (0 : Int32) ≤ a0 ∧ a0 ≤ nI n
  · obtain ⟨m, hm, rfl⟩ := of05 (by omega) q
    refine ⟨fun r h1 => r = 1 ∧ h1 = gk_hf h 58 4 (nI m), fun K1 hK => ?_, fun r h1 hM K2 hK => ?_⟩
    · refine gk_ci_mk (x_dp_end ?_)
      unfold w_dp_end
      rw [tc.1]
      exact s_wi1 q (zF (by decide) ⟨Or.inr rfl, hK _ _ ⟨rfl, rfl⟩⟩)
    · obtain ⟨rfl, rfl⟩ := hM
      refine gk_ci_mk (x_mo_end (fe ?_))
      have g0 : (gk_hf (gk_hf h 58 4 (nI m)) 112 0 0).1 112 10 = nI n := by rw [hf_f, if_neg (by decide), hf_f, if_neg (by decide)]; exact tm.1
      rw [g0]
      refine s_in1 q (zF (by decide) (fe ⟨Or.inr rfl, hK _ ?_⟩))
      refine inv_tape (S := S_fd) I ?_ (fun k q => q) (fun s s0 s10 => ?_) ⟨m, by omega, ?_, ?_, fun k hk => ?_⟩
      · exact fr_tr (fr_hf (by unfold S_fd; omega)) (fr_tr (fr_hf (by unfold S_fd; omega)) (fr_hf (by unfold S_fd; omega)))
      · rw [hf_f, if_neg (fun w => s10 w.2), hf_f, if_neg (fun w => s0 w.2), hf_f, if_neg (fun w => absurd w.1 (by decide))]
      · rw [hf_f, if_neg (by decide), hf_f, if_neg (by decide), hf_f, if_pos ⟨rfl, rfl⟩]
      · rw [hf_f, if_pos ⟨rfl, rfl⟩]
      · exact ⟨by
          show h.2.1 59 k = h.2.1 118 k
          rw [tc.2 k (by omega), tm.2 k (by omega)], tp k, tl k (by omega), tm.2 k (by omega)⟩
  · refine ⟨fun r h1 => r = 0 ∧ h1 = h, fun K1 hK => ?_, fun r h1 hM K2 hK => ?_⟩
    · refine gk_ci_mk (x_dp_end ?_)
      unfold w_dp_end
      rw [tc.1]
      exact s_wi0 q (zT rfl ⟨Or.inl rfl, hK _ _ ⟨rfl, rfl⟩⟩)
    · obtain ⟨rfl, rfl⟩ := hM
      refine gk_ci_mk (x_mo_end (fe ?_))
      have g0 : (gk_hf h1 112 0 0).1 112 10 = nI n := by rw [hf_f, if_neg (by decide)]; exact tm.1
      rw [g0]
      exact s_in0 q (zT rfl ⟨Or.inl rfl, hK _ (Inv_Qs Qs_t I)⟩)
