section GKS2
variable {M : Nat → gk_J} {E : gk_E} {d j : Nat} {cf : Bool} {mc ms : Nat} {Γe : gk_G} {Q : Option Value → gk_H → Prop} {P : gk_P} {O : gk_O} {K : Nat → gk_L → List Value → gk_G → gk_H → Nat → Nat → Prop}
variable {pc nxt tgt : Nat} {L : gk_L} {st : List Value} {Γ : gk_G} {h : gk_H} {nc ns : Nat}
theorem gk_bk_use {rk : Nat} {r : List Value} {Γ1 : gk_G} (hK : gk_KG M E d j cf mc ms Γe Q K) (hi1 : gk_inv cf mc ms Γe Γ1 nc ns) {v : Option Value} {h1 : gk_H} (hb : gk_bk K rk nxt L r Γ1 nc ns v h1) : gk_Go M E d j cf mc ms Γe Q nxt L (v.toList ++ r) Γ1 h1 nc ns := by
  match rk, hb with
  | 0, hb => match v, hb with
    | none, hb => exact hK _ _ _ _ _ _ _ hi1 hb
  | 1, hb => match v, hb with
    | some (.int x), hb => exact hK _ _ _ _ _ _ _ hi1 hb
  | n + 2, hb => match v, hb with
    | some (.long x), hb => exact hK _ _ _ _ _ _ _ hi1 hb
set_option maxHeartbeats 1000000 in
/-- what a call's walk asks, for any kind of call -/
theorem gk_cl_sound (hK : gk_KG M E d j cf mc ms Γe Q K) (hi : gk_inv cf mc ms Γe Γ nc ns) {e : Nat × Nat × Nat × Nat × Nat × Nat × Nat} {av r : List Value} {G : Prop} (hw : gk_cl M E d cf mc ms O K e pc nxt av L r Γ h nc ns)
    (kk : ∀ (d' mc' ms' : Nat) (Γ1 : gk_G) (Q' : Option Value → gk_H → Prop), d' + 1 ≤ d → (r.map fun v => v.category).sum ≤ 8 → gk_Con M E d' e.2.1 av Γ Γ1 h mc' ms' Q' → Γ1.length = Γ.length + mc' → nc + mc' ≤ mc ∧ ns + ms' ≤ ms → (∀ (v : Option Value) (h1 : gk_H), Q' v h1 → gk_Go M E d j cf mc ms Γe Q nxt L (v.toList ++ r) Γ1 h1 (nc + mc') (ns + ms')) → G) : G := by
  unfold gk_cl at hw
  obtain ⟨h1, h2⟩ := gk_bif hw
  have hcat : (r.map fun v => v.category).sum ≤ 8 := Nat.le_of_ble_eq_true h1
  have plain : gk_call M E d e.2.1 av Γ Γ h 0 0 (gk_bk K e.2.2.2.2.1 nxt L r Γ nc ns) → (nc ≤ mc ∧ ns ≤ ms) → G := by
    intro hc hrm
    obtain ⟨d', hd, hcon⟩ := hc
    exact kk d' 0 0 Γ _ (by omega) hcat hcon rfl hrm (fun v h1 hq => gk_bk_use hK hi hq)
  cases cf with
  | false => exact plain h2 hi.2
  | true =>
    simp only at h2
    split at h2
    · exact plain h2 hi.2
    · obtain ⟨⟨a1, a2, a3⟩, d', hd, hcon⟩ := h2
      exact kk d' _ _ _ _ (by omega) hcat hcon a1 ⟨a2, a3⟩ (fun v h1 hq => gk_bk_use hK ⟨fun h9 => (by cases h9), a2, a3⟩ hq)
set_option maxHeartbeats 2000000 in
theorem gk_in_sound (hK : gk_KG M E d j cf mc ms Γe Q K) (hi : gk_inv cf mc ms Γe Γ nc ns) {i : Instr} {idx : Nat} {e : Nat × Nat × Nat × Nat × Nat × Nat × Nat} (hc : gk_cok1 M (M j).1.cls (idx, e)) (hw : gk_in M E d cf mc ms O K i e pc nxt L st Γ h nc ns) (hn : nxt = pc + 3) (hdg : decode (M j).2.1 pc = .ok (i, 3)) (hii : i = .invokevirtual idx ∨ i = .invokestatic idx ∨ i = .invokespecial idx) : gk_Go M E d j cf mc ms Γe Q pc L st Γ h nc ns := by
  subst hn
  obtain ⟨kd, j', ci, n, rk, mc1, ms1⟩ := e
  rcases hii with rfl | rfl | rfl
  · simp only [gk_in] at hw
    split at hw
    · rename_i av k r htk
      obtain ⟨bv, b1, b2, b3⟩ := gk_tk_eq htk
      rw [List.append_nil] at b1
      subst b1
      subst b3
      cases hk0 : Nat.beq kd 0 with
      | true =>
        rw [hk0] at hw
        have := Nat.eq_of_beq_eq_true hk0
        subst this
        simp only [cond_true] at hw
        split at hw
        · rename_i ci' rs hg
          obtain ⟨h1, h2⟩ := gk_bif hw
          have := Nat.eq_of_beq_eq_true h1
          subst this
          exact gk_cl_sound hK hi h2 (fun d' mc' ms' Γ1 Q' hd hcat hcon hlen hrm hgo => gk_go_callV (kd := 0) hc (Or.inl ⟨rfl, rs, hg⟩) b2 hd hcat hcon hlen hrm hdg hgo)
        · exact absurd hw id
      | false =>
        rw [hk0] at hw
        obtain ⟨h1, h2⟩ := gk_bif hw
        simp only [Bool.and_eq_true, Bool.or_eq_true] at h1
        have := Nat.eq_of_beq_eq_true h1.1
        subst this
        have hk : k = 1000001 ∨ k = 1000002 := h1.2.imp Nat.eq_of_beq_eq_true Nat.eq_of_beq_eq_true
        exact gk_cl_sound hK hi h2 (fun d' mc' ms' Γ1 Q' hd hcat hcon hlen hrm hgo => gk_go_callV (kd := 7) (ci := ci) hc (Or.inr ⟨rfl, hk⟩) b2 hd hcat hcon hlen hrm hdg hgo)
    · exact absurd hw id
  · simp only [gk_in] at hw
    cases hk0 : Nat.beq kd 4 with
    | true =>
      rw [hk0] at hw
      have := Nat.eq_of_beq_eq_true hk0
      subst this
      simp only [cond_true] at hw
      split at hw
      · obtain ⟨h1, h2⟩ := gk_bif hw
        have hcat := Nat.le_of_ble_eq_true h1
        split at h2
        · rename_i g0 g1
          obtain ⟨⟨a0, a1, a2, a3, a4, a5⟩, h3⟩ := h2
          exact gk_go_copyi hc a0 hcat g0 g1 a1 a2 a3 a4 a5 hdg (hK _ _ _ _ _ _ _ hi h3)
        · rename_i g0 g1
          obtain ⟨⟨a0, a1, a2, a3, a4, a5⟩, h3⟩ := h2
          exact gk_go_copyl hc a0 hcat g0 g1 a1 a2 a3 a4 a5 hdg (hK _ _ _ _ _ _ _ hi h3)
        · exact absurd h2 id
      · exact absurd hw id
    | false =>
     rw [hk0] at hw
     simp only [cond_false] at hw
     cases hk8 : Nat.beq kd 8 with
     | true =>
      rw [hk8] at hw
      have := Nat.eq_of_beq_eq_true hk8
      subst this
      simp only [cond_true] at hw
      split at hw
      · obtain ⟨h1, h2, h3⟩ := gk_bif hw
        exact gk_go_max hc h2 hi.2.1 hi.2.2 (Nat.le_of_ble_eq_true h1) hdg (hK _ _ _ _ _ _ _ hi h3)
      · exact absurd hw id
     | false =>
     rw [hk8] at hw
     simp only [cond_false] at hw
     cases hk9 : Nat.beq kd 9 with
     | true =>
      rw [hk9] at hw
      have := Nat.eq_of_beq_eq_true hk9
      subst this
      simp only [cond_true] at hw
      split at hw
      · obtain ⟨h1, h2, h3⟩ := gk_bif hw
        exact gk_go_min hc h2 hi.2.1 hi.2.2 (Nat.le_of_ble_eq_true h1) hdg (hK _ _ _ _ _ _ _ hi h3)
      · exact absurd hw id
     | false =>
     rw [hk9] at hw
     simp only [cond_false] at hw
     cases hk10 : Nat.beq kd 10 with
     | true =>
      rw [hk10] at hw
      have := Nat.eq_of_beq_eq_true hk10
      subst this
      simp only [cond_true] at hw
      split at hw
      · obtain ⟨h1, h2, h3⟩ := gk_bif hw
        exact gk_go_abs hc h2 hi.2.1 hi.2.2 (Nat.le_of_ble_eq_true h1) hdg (hK _ _ _ _ _ _ _ hi h3)
      · exact absurd hw id
     | false =>
      rw [hk10] at hw
      obtain ⟨h1, h2⟩ := gk_bif hw
      simp only [Bool.or_eq_true] at h1
      split at h2
      · rename_i av r htk
        obtain ⟨bv, b1, b2, b3⟩ := gk_tk_eq htk
        rw [List.append_nil] at b1
        subst b1
        subst b3
        rcases h1 with h9 | h9
        · have := Nat.eq_of_beq_eq_true h9
          subst this
          exact gk_cl_sound hK hi h2 (fun d' mc' ms' Γ1 Q' hd hcat hcon hlen hrm hgo => gk_go_callS (kd := 1) (ci := ci) hc (Or.inl rfl) b2 hd hcat hcon hlen hrm hdg hgo)
        · have := Nat.eq_of_beq_eq_true h9
          subst this
          exact gk_cl_sound hK hi h2 (fun d' mc' ms' Γ1 Q' hd hcat hcon hlen hrm hgo => gk_go_callS (kd := 5) (ci := ci) hc (Or.inr rfl) b2 hd hcat hcon hlen hrm hdg hgo)
      · exact absurd h2 id
  · simp only [gk_in] at hw
    cases hk0 : Nat.beq kd 3 with
    | true =>
      rw [hk0] at hw
      have := Nat.eq_of_beq_eq_true hk0
      subst this
      simp only [cond_true] at hw
      split at hw
      · obtain ⟨h1, h2, h3⟩ := gk_bif hw
        exact gk_go_obj hc h2 (Nat.le_of_ble_eq_true h1) hdg (hK _ _ _ _ _ _ _ hi h3)
      · exact absurd hw id
    | false =>
      rw [hk0] at hw
      obtain ⟨h1, h2⟩ := gk_bif hw
      simp only [Bool.or_eq_true] at h1
      split at h2
      · rename_i av k r htk
        obtain ⟨bv, b1, b2, b3⟩ := gk_tk_eq htk
        rw [List.append_nil] at b1
        subst b1
        subst b3
        rcases h1 with h9 | h9
        · have := Nat.eq_of_beq_eq_true h9
          subst this
          exact gk_cl_sound hK hi h2 (fun d' mc' ms' Γ1 Q' hd hcat hcon hlen hrm hgo => gk_go_callI (kd := 2) (ci := ci) hc (Or.inl rfl) b2 hd hcat hcon hlen hrm hdg hgo)
        · have := Nat.eq_of_beq_eq_true h9
          subst this
          exact gk_cl_sound hK hi h2 (fun d' mc' ms' Γ1 Q' hd hcat hcon hlen hrm hgo => gk_go_callI (kd := 6) (ci := ci) hc (Or.inr rfl) b2 hd hcat hcon hlen hrm hdg hgo)
      · exact absurd h2 id
theorem gk_end_sound (hi : gk_inv cf mc ms Γe Γ nc ns) {v : Option Value} (hw : gk_end cf mc ms Γe Q v Γ h nc ns) : Q v h ∧ Γ = Γe ∧ nc ≤ mc ∧ ns ≤ ms := by
  cases cf with
  | false => exact ⟨hw, hi.1 rfl, hi.2⟩
  | true => exact ⟨hw.2, hw.1⟩
set_option maxHeartbeats 1000000 in
theorem gk_rtn_sound (hi : gk_inv cf mc ms Γe Γ nc ns) {i : Instr} (hrt : (M j).2.2.2 = gk_rt O.1) (hw : gk_rtn cf mc ms Γe Q O i st Γ h nc ns) (hdg : decode (M j).2.1 pc = .ok (i, 1)) : gk_Go M E d j cf mc ms Γe Q pc L st Γ h nc ns := by
  unfold gk_rtn at hw
  split at hw
  · obtain ⟨h1, h2⟩ := gk_bif hw
    have h0 := Nat.eq_of_beq_eq_true h1
    rw [h0] at hrt
    obtain ⟨q1, q2, q3, q4⟩ := gk_end_sound hi h2
    exact gk_go_ret (v := none) q1 (by rw [hrt]; exact trivial) q2 q3 q4 rfl (by rw [hrt]; exact hdg)
  · obtain ⟨h1, h2⟩ := gk_bif hw
    have h0 := Nat.eq_of_beq_eq_true h1
    rw [h0] at hrt
    obtain ⟨q1, q2, q3, q4⟩ := gk_end_sound hi h2
    exact gk_go_ret (v := some (.long _)) q1 (by rw [hrt]; exact trivial) q2 q3 q4 rfl (by rw [hrt]; exact hdg)
  · rename_i x
    generalize O.1 = rk at hw hrt
    match rk, hw, hrt with
    | 1, hw, hrt =>
      obtain ⟨q1, q2, q3, q4⟩ := gk_end_sound hi hw
      exact gk_go_ret (v := some (.int x)) q1 (by rw [hrt]; exact trivial) q2 q3 q4 rfl (by rw [hrt]; exact hdg)
    | 3, hw, hrt =>
      obtain ⟨hx, hw⟩ := hw
      obtain ⟨q1, q2, q3, q4⟩ := gk_end_sound hi hw
      refine gk_go_ret (v := some (.int x)) q1 ?_ q2 q3 q4 rfl (by rw [hrt]; exact hdg)
      rw [hrt]
      show narrow .boolean (.int x) = .int x
      rcases hx with rfl | rfl <;> decide +kernel
    | 4, hw, hrt =>
      obtain ⟨hx, hw⟩ := hw
      obtain ⟨q1, q2, q3, q4⟩ := gk_end_sound hi hw
      exact gk_go_ret (v := some (.int x)) q1 (by rw [hrt]; exact hx) q2 q3 q4 rfl (by rw [hrt]; exact hdg)
    | 5, hw, hrt =>
      obtain ⟨hx, hw⟩ := hw
      obtain ⟨q1, q2, q3, q4⟩ := gk_end_sound hi hw
      exact gk_go_ret (v := some (.int x)) q1 (by rw [hrt]; exact hx) q2 q3 q4 rfl (by rw [hrt]; exact hdg)
  · exact absurd hw id
set_option maxHeartbeats 2000000 in
theorem gk_nw_sound (hK : gk_KG M E d j cf mc ms Γe Q K) (hP : ∀ e ∈ P.2.2.2.2, gk_nok (M j).1.cls e) {i : Instr} {len : Nat} (hw : gk_nw cf mc ms P K i nxt L st Γ h nc ns) (hn : nxt = pc + gk_ln i) (hdg : decode (M j).2.1 pc = .ok (i, gk_ln i)) : gk_Go M E d j cf mc ms Γe Q pc L st Γ h nc ns := by
  subst hn
  unfold gk_nw at hw
  split at hw
  · split at hw
    · rename_i ci hl
      obtain ⟨C, T, N, c1, c2⟩ := hP _ (gk_lk_mem hl)
      obtain ⟨d1, -⟩ := gk_defs c1
      obtain ⟨⟨a1, a2, a3⟩, hk⟩ := hw
      rw [d1] at a2 hk
      exact gk_go_new c1 c2 a1 a2 a3 hdg (hK _ _ _ _ _ _ _ ⟨fun h9 => (by cases h9), a1, a2⟩ hk)
    · exact absurd hw id
  · obtain ⟨⟨a0, a1, a2, a3, a4⟩, hk⟩ := hw
    exact gk_go_newa (t := 1) (Or.inl rfl) gk_arrs.1 a0 a1 a2 a3 a4 hdg (hK _ _ _ _ _ _ _ ⟨fun h9 => (by cases h9), a2, a3⟩ hk)
  · obtain ⟨⟨a0, a1, a2, a3, a4⟩, hk⟩ := hw
    exact gk_go_newa (t := 2) (Or.inr (Or.inl rfl)) gk_arrs.2.1 a0 a1 a2 a3 a4 hdg (hK _ _ _ _ _ _ _ ⟨fun h9 => (by cases h9), a2, a3⟩ hk)
  · obtain ⟨⟨a0, a1, a2, a3, a4⟩, hk⟩ := hw
    exact gk_go_newa (t := 3) (Or.inr (Or.inr rfl)) gk_arrs.2.2 a0 a1 a2 a3 a4 hdg (hK _ _ _ _ _ _ _ ⟨fun h9 => (by cases h9), a2, a3⟩ hk)
  · split at hw
    · rename_i hl
      obtain ⟨C, T, N, c1, c2⟩ := hP _ (gk_lk_mem hl)
      cases c1
      obtain ⟨⟨a0, a1, a2, a3, a4⟩, hk⟩ := hw
      exact gk_go_newq (c2 _ (by simp [RX9])) a0 a1 a2 a3 a4 hdg (hK _ _ _ _ _ _ _ ⟨fun h9 => (by cases h9), a2, a3⟩ hk)
    · exact absurd hw id
  · exact absurd hw id
end GKS2
