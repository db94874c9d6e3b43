/-! easy questions: fault, look, room, book -/
theorem vpi {x : Int32} {n : Nat} (h : ¬ (x < 0 ∨ n ≤ x.toNatClampNeg)) : vp_in x n := h
section EASY
variable {E : gk_E} {d : Nat}
theorem lc_fault (a0 : Int32) : lc_ok E (d + 1) InvX jdp_fault jmo_fault [.int a0] := by
  refine lc_q fun n w T X hn hw0 hg hT => ?_
  refine ⟨if a0 = 0 then X.2.1 else if a0 = 1 then X.2.2 else -1, fun h K v k => ?_, fun h K v k => ?_⟩
  · obtain ⟨c1, c2, c3, c4⟩ := v.2.2.2.2.2.2.2.2.2.1
    have k := k h Qs_rf
    refine gk_ci_mk (x_dp_fault ?_)
    refine ⟨fun q => ?_, fun q => ⟨fun q2 => ?_, fun q2 => ?_⟩⟩
    · rw [if_pos q, ← c1] at k; exact k
    · rw [if_neg q, if_pos q2, ← c3] at k; exact k
    · rw [if_neg q, if_neg q2] at k; exact k
  · obtain ⟨c1, c2, c3, c4⟩ := v.2.2.2.2.2.2.2.2.2.1
    have k := k _ (Qs_t (h := h) (x := 0))
    refine gk_ci_mk (x_mo_fault ?_)
    refine ⟨fun q => ⟨fun q2 => ?_, fun q2 => ?_⟩, fun q => ?_⟩
    · rw [if_neg q, if_neg q2] at k; exact k
    · rw [if_neg q, if_pos q2, ← c4] at k; exact k
    · rw [if_pos q, ← c2] at k; exact k
theorem s_mo_ownedSet {h : gk_H} {K : Int32 → gk_H → Prop} {n : Nat} {o : Int32} (hn : n ≤ 10) (e : h.1 112 6 = nI n) (hb : ∀ p, p < 10 → h.2.1 113 (21 + p) = nb_b (nb_bit o p)) (hz : ∀ p, n ≤ p → nb_bit o p = false) (hk : K o h) : gk_ci E (d + 1) jmo_ownedSet [.ref 112] h K := by
  refine gk_ci_mk (x_mo_ownedSet ?_)
  rintro _ rfl _ rfl
  refine lp_up (N := n) (fun j (s : Int32) => g_mo_ownedSet_4 E d (gk_qi K) s (nI j) h) (fun j s => ∀ i, nb_bit s i = (decide (i < j) && nb_bit o i)) ?_ ?_ 0 0 (Nat.zero_le _) (fun i => by rw [bI_0]; rfl)
  · intro j s hj hs ih
    refine x_mo_ownedSet_4 (pk_le n j (fun q => by omega) (fun _ => ?_) (hx := e))
    rw [show (21 : Int32) + nI j = nI (21 + j) from nI_add 21 j, nI_clamp (by omega), hb j (by omega)]
    refine ⟨vp_in_nI (by omega) (by decide), fun q => ?_, fun q => ?_⟩
    · rintro _ rfl
      rw [nI_1]
      refine ih s fun i => ?_
      rw [hs i]
      by_cases z : i = j
      · subst z
        have : nb_bit o i = false := by
          cases e : nb_bit o i with
          | false => rfl
          | true => rw [e] at q; exact absurd rfl q
        rw [this]; simp
      · have : i < j ↔ i < j + 1 := by omega
        simp [this]
    · rintro _ rfl _ rfl
      rw [nI_1]
      refine ih _ fun i => ?_
      rw [bI_or, bI_one (by omega), hs i]
      by_cases z : i = j
      · subst z
        rw [nb_b1] at q
        simp [q]
      · have : i < j ↔ i < j + 1 := by omega
        simp [this, z]
  · intro s hs
    refine x_mo_ownedSet_4 (pk_le n n (fun _ => ?_) (fun q => by omega) (hx := e))
    have : s = o := bI_ext fun c hc => by
      rw [hs c]
      by_cases q : c < n
      · rw [decide_eq_true q]; rfl
      · rw [hz c (by omega)]; simp
    rw [this]
    exact hk
theorem s_tx_count_7 {h : gk_H} {K : Int32 → gk_H → Prop} {k : Nat} (h0 : 0 < k) (h4 : k < 4) (hk : K (h.2.1 15 k) h) : gk_ci E (d + 1) jtx_count [.ref 7, .int (nI k)] h K := by
  refine gk_ci_mk (x_tx_count_7 (zF (nI_ne0 h0 (by omega)) (yF (nI_nle h0 (by omega)) (pk_le 4 k (fun q => by omega) (fun _ => ⟨vp_in_nI h4 (by decide), ?_⟩)))))
  rw [nI_clamp (by omega)]
  exact hk
theorem s_tx_count_7_0 {h : gk_H} {K : Int32 → gk_H → Prop} (hk : K (h.1 8 0) h) : gk_ci E (d + 1) jtx_count [.ref 7, .int 0] h K := gk_ci_mk (x_tx_count_7 (zT rfl hk))
def lookA (w : gk_WV) (T : gT) (X : Nat × Int32 × Int32) (a : Int32) : Int32 := if a = 0 then w.1 0 else if a = 1 then w.1 3 else if a = 2 then w.1 4 else if a = 3 then w.1 1 else if a = 4 then w.1 5 else if a = 5 then w.1 7 else if a = 6 then w.1 6 else if a = 7 then nI T.2.2.2.2.1.length else if a = 8 then nI T.1.1 else if a = 9 then nI T.1.2.1 else if a = 10 then nI T.1.2.2 else if a = 11 then nI X.1 else -1
theorem lc_look (a0 : Int32) : lc_ok E (d + 2) InvX jdp_look jmo_look [.int a0] := by
  refine lc_q fun n w T X hn hw0 hg hT => ⟨lookA w T X a0, fun h K v k => ?_, fun h K v k => ?_⟩
  · have k : ∀ x, x = lookA w T X a0 → K x h := fun x e => by rw [e]; exact k h Qs_rf
    obtain ⟨⟨t1, t2, t3⟩, -, -, -, ⟨⟨-, l1⟩, -⟩, -⟩ := v.2.2.2.2.2.2.1
    obtain ⟨-, b2, b3⟩ := v.2.2.2.2.2.2.2.2.1
    refine gk_ci_mk (x_dp_look ?_)
    refine ⟨fun q => ?_, fun q0 => ⟨fun q => ?_, fun q1 => ⟨fun q => ?_, fun q2 => ⟨fun q => ?_, fun q3 => ⟨fun q => ?_, fun q4 => ⟨fun q => ?_, fun q5 => ⟨fun q => ?_, fun q6 => ⟨fun q => ?_, fun q7 => ⟨fun q => ?_, fun q8 => ⟨fun q => ?_, fun q9 => ⟨fun q => ?_, fun q10 => ⟨fun q => ?_, fun q11 => ?_⟩⟩⟩⟩⟩⟩⟩⟩⟩⟩⟩⟩
    · exact k _ (by rw [Vw_f v (by decide), lookA, if_pos q])
    · exact k _ (by rw [Vw_f v (by decide), lookA, if_neg q0, if_pos q])
    · exact k _ (by rw [Vw_f v (by decide), lookA, if_neg q0, if_neg q1, if_pos q])
    · exact k _ (by rw [Vw_f v (by decide), lookA, if_neg q0, if_neg q1, if_neg q2, if_pos q])
    · exact k _ (by rw [Vw_f v (by decide), lookA, if_neg q0, if_neg q1, if_neg q2, if_neg q3, if_pos q])
    · exact k _ (by rw [Vw_f v (by decide), lookA, if_neg q0, if_neg q1, if_neg q2, if_neg q3, if_neg q4, if_pos q])
    · exact k _ (by rw [Vw_f v (by decide), lookA, if_neg q0, if_neg q1, if_neg q2, if_neg q3, if_neg q4, if_neg q5, if_pos q])
    · exact s_tx_count_7_0 (k _ (by rw [lookA, if_neg q0, if_neg q1, if_neg q2, if_neg q3, if_neg q4, if_neg q5, if_neg q6, if_pos q]; exact l1))
    · exact s_tx_count_7 (k := 1) (by decide) (by decide) (k _ (by rw [lookA, if_neg q0, if_neg q1, if_neg q2, if_neg q3, if_neg q4, if_neg q5, if_neg q6, if_neg q7, if_pos q]; exact t1))
    · exact s_tx_count_7 (k := 2) (by decide) (by decide) (k _ (by rw [lookA, if_neg q0, if_neg q1, if_neg q2, if_neg q3, if_neg q4, if_neg q5, if_neg q6, if_neg q7, if_neg q8, if_pos q]; exact t2))
    · exact s_tx_count_7 (k := 3) (by decide) (by decide) (k _ (by rw [lookA, if_neg q0, if_neg q1, if_neg q2, if_neg q3, if_neg q4, if_neg q5, if_neg q6, if_neg q7, if_neg q8, if_neg q9, if_pos q]; exact t3))
    · exact k _ (by rw [lookA, if_neg q0, if_neg q1, if_neg q2, if_neg q3, if_neg q4, if_neg q5, if_neg q6, if_neg q7, if_neg q8, if_neg q9, if_neg q10, if_pos q]; exact b2)
    · exact k _ (by rw [lookA, if_neg q0, if_neg q1, if_neg q2, if_neg q3, if_neg q4, if_neg q5, if_neg q6, if_neg q7, if_neg q8, if_neg q9, if_neg q10, if_neg q11])
  · have k : ∀ x, x = lookA w T X a0 → K x (gk_hf h 112 0 0) := fun x e => by rw [e]; exact k _ Qs_t
    have v' : Vw (gk_hf h 112 0 0) n w T X := Vw_Qs Qs_t v
    obtain ⟨m0, m1, m2, m3, m4⟩ := Vw_m0 v'
    obtain ⟨⟨t1, t2, t3⟩, -, -, -, ⟨⟨-, l1⟩, -⟩, -⟩ := v'.2.2.2.2.2.2.2.1
    obtain ⟨-, b2, b3⟩ := v'.2.2.2.2.2.2.2.2.1
    refine gk_ci_mk (x_mo_look ?_)
    refine ⟨fun q0 => ⟨fun q1 => ⟨fun q2 => ⟨fun q3 => ⟨fun q4 => ⟨fun q5 => ⟨fun q6 => ⟨fun q7 => ⟨fun q8 => ⟨fun q9 => ⟨fun q10 => ⟨fun q11 => ?_, fun q => ?_⟩, fun q => ?_⟩, fun q => ?_⟩, fun q => ?_⟩, fun q => ⟨vpi (by decide), ?_⟩⟩, fun q => ⟨vpi (by decide), ?_⟩⟩, fun q => ⟨vpi (by decide), ?_⟩⟩, fun q => ⟨vpi (by decide), ?_⟩⟩, fun q => ?_⟩, fun q => ⟨vpi (by decide), ?_⟩⟩, fun q => ⟨vpi (by decide), ?_⟩⟩, fun q => ?_⟩
    · exact k _ (by rw [lookA, if_neg q0, if_neg q1, if_neg q2, if_neg q3, if_neg q4, if_neg q5, if_neg q6, if_neg q7, if_neg q8, if_neg q9, if_neg q10, if_neg q11])
    · exact k _ (by rw [lookA, if_neg q0, if_neg q1, if_neg q2, if_neg q3, if_neg q4, if_neg q5, if_neg q6, if_neg q7, if_neg q8, if_neg q9, if_neg q10, if_pos q]; exact b3)
    · exact k _ (by rw [lookA, if_neg q0, if_neg q1, if_neg q2, if_neg q3, if_neg q4, if_neg q5, if_neg q6, if_neg q7, if_neg q8, if_neg q9, if_pos q]; exact t3)
    · exact k _ (by rw [lookA, if_neg q0, if_neg q1, if_neg q2, if_neg q3, if_neg q4, if_neg q5, if_neg q6, if_neg q7, if_neg q8, if_pos q]; exact t2)
    · exact k _ (by rw [lookA, if_neg q0, if_neg q1, if_neg q2, if_neg q3, if_neg q4, if_neg q5, if_neg q6, if_neg q7, if_pos q]; exact t1)
    · exact k _ (by rw [lookA, if_neg q0, if_neg q1, if_neg q2, if_neg q3, if_neg q4, if_neg q5, if_neg q6, if_pos q]; exact l1)
    · exact k _ (by rw [lookA, if_neg q0, if_neg q1, if_neg q2, if_neg q3, if_neg q4, if_neg q5, if_pos q]; exact m1)
    · exact k _ (by rw [lookA, if_neg q0, if_neg q1, if_neg q2, if_neg q3, if_neg q4, if_pos q]; exact m2)
    · exact k _ (by rw [lookA, if_neg q0, if_neg q1, if_neg q2, if_neg q3, if_pos q]; exact m0)
    · obtain ⟨m, ⟨g1, g2⟩, g3, -⟩ := hg
      have em : m = n := (nI_eq (by omega) (by omega)).mp (g2.symm.trans hw0)
      refine s_mo_ownedSet hn v'.1.2.2 (fun p hp => (Vw_mp v' hp).2.1) (fun p hp => (g3 p (by omega)).1) (k _ ?_)
      rw [lookA, if_neg q0, if_neg q1, if_neg q2, if_pos q]
    · exact k _ (by rw [lookA, if_neg q0, if_neg q1, if_pos q]; exact m4)
    · exact k _ (by rw [lookA, if_neg q0, if_pos q]; exact m3)
    · exact k _ (by rw [lookA, if_pos q, hw0]; exact v'.1.2.2)
theorem lc_room (a0 a1 : Int32) : lc_ok E (d + 3) InvX jdp_room jmo_room [.int a0, .int a1] := by
  refine lc_q fun n w T X hn hw0 hg hT => ?_
  by_cases ha : (0 : Int32) ≤ a0 ∧ a0 ≤ 5
  · obtain ⟨i, hi, rfl⟩ := of05 (N := 5) (by decide) ha
    by_cases hb : a1 = 0
    · refine ⟨w.2.2.2.2.2 i, fun h K v k => ?_, fun h K v k => ?_⟩
      · refine gk_ci_mk (x_dp_room (s_rm1 ha (zF (by decide) (zT hb ⟨vp_in_nI (by omega) (by decide), ?_⟩))))
        have := Vw_l v (p := i) (by omega)
        rw [nI_clamp (by omega)]
        show K (h.2.1 6 i) h
        rw [this]; exact k h Qs_rf
      · refine gk_ci_mk (x_mo_room (s_in1 ha (zF (by decide) (zT hb ?_))))
        rw [show (5 : Int32) + nI i = nI (5 + i) from nI_add 5 i]
        refine ⟨vp_in_nI (by omega) (by decide), ?_⟩
        have := Vw_ml (Vw_Qs (Qs_t (x := 0)) v) (r := i) (by omega)
        rw [nI_clamp (by omega)]
        show K ((gk_hf h 112 0 0).2.1 113 (5 + i)) _
        rw [this]; exact k _ Qs_t
    · by_cases hc : (10 : Int32) ≤ a1 ∧ a1 ≤ 15
      · have hj : ∃ j, j < 6 ∧ a1 = nI (10 + j) := by
          obtain ⟨j, hj, rfl⟩ := of05 (N := 15) (by decide) ⟨Int32.le_trans (by decide) hc.1, hc.2⟩
          have := (nI_leI (a := 10) (by decide) (by omega)).mp hc.1
          exact ⟨j - 10, by omega, by rw [show 10 + (j - 10) = j by omega]⟩
        obtain ⟨j, hj, rfl⟩ := hj
        refine ⟨if T.2.1 (6 * i + j) = 0 then -1 else T.2.1 (6 * i + j), fun h K v k => ?_, fun h K v k => ?_⟩
        · have e0 : nI i * 6 + nI (10 + j) - 10 = nI (6 * i + j) := by
            show nI i * nI 6 + nI (10 + j) - nI 10 = _
            rw [nI_mulN, nI_add, pk_sub (by omega)]
            exact congrArg nI (by omega)
          have k := k h Qs_rf
          refine gk_ci_mk (x_dp_room (s_rm1 ha (zF (by decide) (zF hb (s_wi1 hc (zF (by decide) ?_))))))
          rw [e0, nI_clamp (by omega)]
          refine ⟨vp_in_nI (by omega) (by decide), ?_⟩
          have e1 : h.2.1 16 (6 * i + j) = T.2.1 (6 * i + j) := v.2.2.2.2.2.2.1.2.1 _ (by omega)
          rintro x rfl
          rw [e1]
          refine ⟨fun q => ?_, fun q => ?_⟩
          · rw [if_neg q] at k; exact k
          · rw [if_pos q] at k; exact k
        · have e0 : (6 : Int32) * nI i + nI (10 + j) - 10 = nI (6 * i + j) := by
            show nI 6 * nI i + nI (10 + j) - nI 10 = _
            rw [nI_mulN, nI_add, pk_sub (by omega)]
            exact congrArg nI (by omega)
          have k := k _ (Qs_t (h := h) (x := 0))
          refine gk_ci_mk (x_mo_room (s_in1 ha (zF (by decide) (zF hb (s_in1 hc (zF (by decide) ?_))))))
          rw [e0, nI_clamp (by omega)]
          refine ⟨vp_in_nI (by omega) (by decide), ?_⟩
          have e1 : (gk_hf h 112 0 0).2.1 128 (6 * i + j) = T.2.1 (6 * i + j) := v.2.2.2.2.2.2.2.1.2.1 _ (by omega)
          rintro x rfl
          rw [e1]
          refine ⟨fun q => ?_, fun q => ?_⟩
          · rw [if_neg q] at k; exact k
          · rw [if_pos q] at k; exact k
      · refine ⟨-2, fun h K v k => ?_, fun h K v k => ?_⟩
        · exact gk_ci_mk (x_dp_room (s_rm1 ha (zF (by decide) (zF hb (s_wi0 hc (zT rfl (k h Qs_rf)))))))
        · exact gk_ci_mk (x_mo_room (s_in1 ha (zF (by decide) (zF hb (s_in0 hc (zT rfl (k _ Qs_t)))))))
  · refine ⟨-2, fun h K v k => ?_, fun h K v k => ?_⟩
    · exact gk_ci_mk (x_dp_room (s_rm0 ha (zT rfl (k h Qs_rf))))
    · exact gk_ci_mk (x_mo_room (s_in0 ha (zT rfl (k _ Qs_t))))
theorem lc_book (a0 a1 : Int32) : lc_ok E (d + 2) InvX jdp_book jmo_book [.int a0, .int a1] := by
  refine lc_q fun n w T X hn hw0 hg hT => ?_
  obtain ⟨m, -, -, -, -, kk, hkk, ekk⟩ := hg
  by_cases ha : (0 : Int32) ≤ a0 ∧ a0 ≤ w.1 7 - 1
  · have hi : ∃ i, i < kk ∧ a0 = nI i := by
      rw [ekk] at ha
      cases kk with
      | zero => exact absurd (Int32.le_trans ha.1 ha.2) (by decide)
      | succ q =>
        rw [nI_pred] at ha
        obtain ⟨i, hi, rfl⟩ := of05 (N := q) (by omega) ha
        exact ⟨i, by omega, rfl⟩
    obtain ⟨i, hi, rfl⟩ := hi
    by_cases hb : (0 : Int32) ≤ a1 ∧ a1 ≤ 3
    · obtain ⟨j, hj, rfl⟩ := of05 (N := 3) (by decide) hb
      refine ⟨T.2.2.2.2.2 (4 * i + j), fun h K v k => ?_, fun h K v k => ?_⟩
      · have e0 : nI i * 4 + nI j = nI (4 * i + j) := by
          show nI i * nI 4 + nI j = _
          rw [nI_mulN, nI_add]; exact congrArg nI (by omega)
        refine gk_ci_mk (x_dp_book ?_)
        unfold w_dp_book
        rw [Vw_f v (by decide)]
        refine s_wi1 ha (yF (by decide) (s_wi1 hb (zF (by decide) ?_)))
        rw [e0, nI_clamp (by omega)]
        refine ⟨vp_in_nI (by omega) (by decide), ?_⟩
        show K (h.2.1 19 (4 * i + j)) h
        rw [v.2.2.2.2.2.2.1.2.2.2.2.2 _ (by omega)]
        exact k h Qs_rf
      · have e0 : (4 : Int32) * nI i + nI j = nI (4 * i + j) := by
          show nI 4 * nI i + nI j = _
          rw [nI_mulN, nI_add]
        refine gk_ci_mk (x_mo_book ?_)
        refine ⟨vpi (by decide), ?_⟩
        have e2 : (gk_hf h 112 0 0).2.1 113 (2 : Int32).toNatClampNeg = w.1 7 := (Vw_m0 v).2.2.1
        rw [e2]
        refine s_in1 ha (yF (by decide) (s_in1 hb (yF (by decide) ?_)))
        rw [e0, nI_clamp (by omega)]
        refine ⟨vp_in_nI (by omega) (by decide), ?_⟩
        show K (h.2.1 117 (4 * i + j)) _
        rw [v.2.2.2.2.2.2.2.1.2.2.2.2.2 _ (by omega)]
        exact k _ Qs_t
    · refine ⟨-1, fun h K v k => ?_, fun h K v k => ?_⟩
      · refine gk_ci_mk (x_dp_book ?_)
        unfold w_dp_book
        rw [Vw_f v (by decide)]
        exact s_wi1 ha (yF (by decide) (s_wi0 hb (zT rfl (k h Qs_rf))))
      · refine gk_ci_mk (x_mo_book ?_)
        refine ⟨vpi (by decide), ?_⟩
        have e2 : (gk_hf h 112 0 0).2.1 113 (2 : Int32).toNatClampNeg = w.1 7 := (Vw_m0 v).2.2.1
        rw [e2]
        exact s_in1 ha (yF (by decide) (s_in0 hb (yT rfl (k _ Qs_t))))
  · refine ⟨-1, fun h K v k => ?_, fun h K v k => ?_⟩
    · refine gk_ci_mk (x_dp_book ?_)
      unfold w_dp_book
      rw [Vw_f v (by decide)]
      exact s_wi0 ha (yT rfl (k h Qs_rf))
    · refine gk_ci_mk (x_mo_book ?_)
      refine ⟨vpi (by decide), ?_⟩
      have e2 : (gk_hf h 112 0 0).2.1 113 (2 : Int32).toNatClampNeg = w.1 7 := (Vw_m0 v).2.2.1
      rw [e2]
      exact s_in0 ha (yT rfl (k _ Qs_t))
end EASY
