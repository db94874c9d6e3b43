/-! the law's entry: two constructors, then the loop -/
def h_st (h : gk_H) : gk_H := hh_mo_112 (gk_h0 (hh_dp_0 (gk_h0 h 0)) 112)
theorem gk_nlw {i ci n : Nat} (hm : (i, ci) ∈ pl_lw.2.2.2.2) (hn : (gk_bs ci).length = n) : ∃ (C : String) (T : u_T), vwCl[ci]? = some (C, T, n) ∧ ∀ w ∈ ([.classLink "DryPlacesLaw" i C, .instantiable C n, .initialized C] : List Cond), w ∈ gk_TT := by
  obtain ⟨C, T, N, c1, c2⟩ := pn_lw _ hm
  obtain ⟨d1, -⟩ := gk_defs c1
  have e : N = n := d1.symm.trans hn
  subst e
  exact ⟨C, T, c1, c2⟩
set_option maxRecDepth 100000 in
set_option maxHeartbeats 4000000 in
theorem law_entry {E : gk_E} {d : Nat} {Q : Option Value → gk_H → Prop} {h : gk_H} (k : g_lw_law_18 E (d + 5) Q (nI 0) (h_st h)) : gk_Go gk_M E (d + 5) jlw_law false 145 gk_NS gk_G0 Q 0 [some (.ref 1000000), none, none, none] [] [] h 0 0 := by
  obtain ⟨C1, T1, a1, a2⟩ := gk_nlw (i := 7) (ci := 9) (n := 16) (by decide +kernel) rfl
  obtain ⟨C2, T2, b1, b2⟩ := gk_nlw (i := 10) (ci := 10) (n := 55) (by decide +kernel) rfl
  refine gk_go_new (M := gk_M) (j := jlw_law) (pc := 0) a1 a2 (by exact Nat.le_of_ble_eq_true rfl) (by exact Nat.le_of_ble_eq_true rfl) (by exact Nat.le_of_ble_eq_true rfl) (by decide +kernel) ?_
  refine gk_go_alu (M := gk_M) (j := jlw_law) (pc := 3) (i := .dup) (st' := [.ref 0, .ref 0]) (by decide +kernel) rfl ?_
  refine gk_go_callI (M := gk_M) (j := jlw_law) (pc := 4) (av := []) (k := 0) (st := [.ref 0]) (kd := 2) (j' := jdp_init) (ci := 0) (n := 0) (Γ1 := ca_dp_0) (mc' := 111) (ms' := 6815) (Q' := fun v h1 => v = none ∧ h1 = hh_dp_0 (gk_h0 h 0)) (d' := d + 4) (pc_lw (9, 2, 124, 0, 0, 0, 111, 6815) (by decide +kernel)) (Or.inl rfl) rfl (Nat.le_refl _) (by decide) (ct_dp_0 ⟨rfl, rfl⟩) rfl ⟨(by exact Nat.le_of_ble_eq_true rfl), (by exact Nat.le_of_ble_eq_true rfl)⟩ (by decide +kernel) ?_
  intro v h1 hq
  obtain ⟨rfl, rfl⟩ := hq
  refine gk_go_astore_n (M := gk_M) (j := jlw_law) (pc := 7) (i := 1) (x := 0) (st := []) (by decide) (by decide +kernel) ?_
  refine gk_go_new (M := gk_M) (j := jlw_law) (pc := 8) b1 b2 (by exact Nat.le_of_ble_eq_true rfl) (by exact Nat.le_of_ble_eq_true rfl) (by exact Nat.le_of_ble_eq_true rfl) (by decide +kernel) ?_
  refine gk_go_alu (M := gk_M) (j := jlw_law) (pc := 11) (i := .dup) (st' := [.ref 112, .ref 112]) (by decide +kernel) rfl ?_
  refine gk_go_callI (M := gk_M) (j := jlw_law) (pc := 12) (av := []) (k := 112) (st := [.ref 112]) (kd := 2) (j' := jmo_init) (ci := 0) (n := 0) (Γ1 := ca_mo_112) (mc' := 32) (ms' := 8617) (Q' := fun v h1 => v = none ∧ h1 = h_st h) (d' := d + 4) (pc_lw (12, 2, 162, 0, 0, 0, 32, 8617) (by decide +kernel)) (Or.inl rfl) rfl (Nat.le_refl _) (by decide) (ct_mo_112 ⟨rfl, rfl⟩) rfl ⟨(by exact Nat.le_of_ble_eq_true rfl), (by exact Nat.le_of_ble_eq_true rfl)⟩ (by decide +kernel) ?_
  intro v h1 hq
  obtain ⟨rfl, rfl⟩ := hq
  refine gk_go_astore_n (M := gk_M) (j := jlw_law) (pc := 15) (i := 2) (x := 112) (st := []) (by decide) (by decide +kernel) ?_
  refine gk_go_alu (M := gk_M) (j := jlw_law) (pc := 16) (i := .iconst 0) (st' := [.int (nI 0)]) (by decide +kernel) rfl ?_
  refine gk_go_istore_n (M := gk_M) (j := jlw_law) (pc := 17) (i := 3) (st := []) (by decide) (by decide +kernel) ?_
  exact k
