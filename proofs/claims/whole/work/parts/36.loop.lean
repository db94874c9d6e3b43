/-! THE LAW's LOOP: what each call owes, and that the loop comes to its end with true -/
/-- a call of the class, then of the reference, with the same arguments: the same answer, and Inv again. Mid: what is known between the two -/
def lc_ok (E : gk_E) (d : Nat) (Inv : gk_H → Prop) (jc jm : Nat) (as : List Value) : Prop := ∀ h, Inv h → ∃ Mid : Int32 → gk_H → Prop, (∀ K1 : Int32 → gk_H → Prop, (∀ r h1, Mid r h1 → K1 r h1) → gk_ci E d jc (.ref 0 :: as) h K1) ∧ ∀ r h1, Mid r h1 → ∀ K2 : Int32 → gk_H → Prop, (∀ h2, Inv h2 → K2 r h2) → gk_ci E d jm (.ref 112 :: as) h1 K2
theorem lw_ge {L i : Nat} (hL : L ≤ 3072) (hi : i ≤ 4000) (c : ¬ (Int32.ofNat L - 6) < nI i) : i + 6 ≤ L := by
  have h1 : (nI L - nI 6).toInt = (L : Int) - 6 := pk_sub_toInt (by omega) (by omega)
  have h2 : (nI i).toInt = (i : Int) := nI_toInt (by omega)
  have h3 : ¬ (nI L - nI 6).toInt < (nI i).toInt := fun q => c (Int32.lt_iff_toInt_lt.mpr q)
  rw [h1, h2] at h3
  omega
def lc_all (E : gk_E) (d : Nat) (Inv : gk_H → Prop) : Prop := (∀ a0 : Int32, lc_ok E d Inv jdp_state jmo_state [.int a0]) ∧ (∀ a0 : Int32, lc_ok E d Inv jdp_place jmo_place [.int a0]) ∧ (∀ a0 a1 a2 : Int32, lc_ok E d Inv jdp_row jmo_row [.int a0, .int a1, .int a2]) ∧ (∀ a0 : Int32, lc_ok E d Inv jdp_purse jmo_purse [.int a0]) ∧ (∀ a0 a1 a2 : Int32, lc_ok E d Inv jdp_act jmo_act [.int a0, .int a1, .int a2]) ∧ (∀ a0 : Int32, lc_ok E d Inv jdp_days jmo_days [.int a0]) ∧ (∀ a0 a1 a2 a3 a4 : Int32, lc_ok E d Inv jdp_feed jmo_feed [.int a0, .int a1, .int a2, .int a3, .int a4]) ∧ (∀ a0 : Int32, lc_ok E d Inv jdp_end jmo_end [.int a0]) ∧ (∀ a0 : Int32, lc_ok E d Inv jdp_text jmo_text [.int a0]) ∧ (∀ a0 : Int32, lc_ok E d Inv jdp_fault jmo_fault [.int a0]) ∧ (∀ a0 a1 : Int32, lc_ok E d Inv jdp_of jmo_of [.int a0, .int a1]) ∧ (∀ a0 a1 : Int32, lc_ok E d Inv jdp_creeps jmo_creeps [.int a0, .int a1]) ∧ (∀ a0 a1 : Int32, lc_ok E d Inv jdp_room jmo_room [.int a0, .int a1]) ∧ (∀ a0 a1 : Int32, lc_ok E d Inv jdp_book jmo_book [.int a0, .int a1]) ∧ (∀ a0 a1 : Int32, lc_ok E d Inv jdp_goes jmo_goes [.int a0, .int a1]) ∧ (∀ a0 a1 : Int32, lc_ok E d Inv jdp_shape jmo_shape [.int a0, .int a1]) ∧ (∀ a0 a1 : Int32, lc_ok E d Inv jdp_turned jmo_turned [.int a0, .int a1]) ∧ (∀ a0 a1 : Int32, lc_ok E d Inv jdp_square jmo_square [.int a0, .int a1]) ∧ (∀ a0 a1 a2 : Int32, lc_ok E d Inv jdp_fit jmo_fit [.int a0, .int a1, .int a2]) ∧ (∀ a0 a1 a2 a3 : Int32, lc_ok E d Inv jdp_walk jmo_walk [.int a0, .int a1, .int a2, .int a3]) ∧ (∀ a0 a1 : Int32, lc_ok E d Inv jdp_sums jmo_sums [.int a0, .int a1]) ∧ (∀ a0 a1 : Int32, lc_ok E d Inv jdp_buys jmo_buys [.int a0, .int a1]) ∧ (∀ a0 a1 : Int32, lc_ok E d Inv jdp_tour jmo_tour [.int a0, .int a1]) ∧ (∀ a0 : Int32, lc_ok E d Inv jdp_vouched jmo_vouched [.int a0]) ∧ (∀ a0 a1 a2 : Int32, lc_ok E d Inv jdp_lie jmo_lie [.int a0, .int a1, .int a2]) ∧ (∀ a0 : Int32, lc_ok E d Inv jdp_feet jmo_feet [.int a0]) ∧ (∀ a0 : Int32, lc_ok E d Inv jdp_game jmo_game [.int a0]) ∧ (lc_ok E d Inv jdp_undo jmo_undo []) ∧ (∀ a0 : Int32, a0 = 0 ∨ a0 = 1 → lc_ok E d Inv jdp_image jmo_image [.int a0]) ∧ (∀ a0 : Int32, lc_ok E d Inv jdp_look jmo_look [.int a0])
set_option maxHeartbeats 4000000 in
set_option maxRecDepth 100000 in
theorem law_loop {E : gk_E} {d : Nat} {Inv : gk_H → Prop} (HA : lc_all E d Inv) (hL : E.1.1 ≤ 3072) : ∀ (n i : Nat) (h : gk_H), Inv h → E.1.1 ≤ i + 6 * n → i ≤ 3500 → g_lw_law_18 E d (fun v _ => v = some (.int 1)) (nI i) h := by
  obtain ⟨H0, H1, H2, H3, H4, H5, H6, H7, H8, H9, H10, H11, H12, H13, H14, H15, H16, H17, H18, H19, H20, H21, H22, H23, H24, H25, H26, H27, H28, H29⟩ := HA
  intro n
  induction n with
  | zero =>
    intro i h hI hn hi
    refine x_lw_law_18 ⟨fun _ => ⟨Or.inr rfl, rfl⟩, fun c => ?_⟩
    have := lw_ge hL (by omega) c
    omega
  | succ n ih =>
    intro i h hI hn hi
    refine x_lw_law_18 ⟨fun _ => ⟨Or.inr rfl, rfl⟩, fun c => ?_⟩
    have hge := lw_ge hL (by omega) c
    have v0 : vp_in (nI i) E.1.1 := vp_in_nI (by omega) (by omega)
    have v1 : vp_in (nI i + 1) E.1.1 := by rw [show nI i + 1 = nI (i + 1) from nI_add i 1]; exact vp_in_nI (by omega) (by omega)
    have v2 : vp_in (nI i + 2) E.1.1 := by rw [show nI i + 2 = nI (i + 2) from nI_add i 2]; exact vp_in_nI (by omega) (by omega)
    have v3 : vp_in (nI i + 3) E.1.1 := by rw [show nI i + 3 = nI (i + 3) from nI_add i 3]; exact vp_in_nI (by omega) (by omega)
    have v4 : vp_in (nI i + 4) E.1.1 := by rw [show nI i + 4 = nI (i + 4) from nI_add i 4]; exact vp_in_nI (by omega) (by omega)
    have v5 : vp_in (nI i + 5) E.1.1 := by rw [show nI i + 5 = nI (i + 5) from nI_add i 5]; exact vp_in_nI (by omega) (by omega)
    have nx : ∀ h2, Inv h2 → ∀ x : Int32, x = nI i + 6 → g_lw_law_18 E d (fun v _ => v = some (.int 1)) x h2 := by
      intro h2 hI2 x ex
      rw [ex, show nI i + 6 = nI (i + 6) from nI_add i 6]
      exact ih (i + 6) h2 hI2 (by omega) (by omega)
    have fin : ∀ (r : Int32) (h2 : gk_H), Inv h2 → (r = r → ∀ x : Int32, x = nI i + 6 → g_lw_law_18 E d (fun v _ => v = some (.int 1)) x h2) ∧ (¬ r = r → (((0 : Int32) = 0 ∨ (0 : Int32) = 1) ∧ (fun (v : Option Value) (_ : gk_H) => v = some (.int 1)) (some (.int (0 : Int32))) h2)) := fun r h2 hI2 => ⟨fun _ => nx h2 hI2, fun c => absurd rfl c⟩
    refine ⟨v0, ?_⟩
    refine ⟨fun _ => ?_, fun _ => ?_⟩
    · obtain ⟨Mid, p1, p2⟩ := H0 (E.2 (nI i + 1).toNatClampNeg) h hI
      exact ⟨v1, p1 _ (fun r h1 hm => ⟨v1, p2 r h1 hm _ (fun h2 hI2 => fin r h2 hI2)⟩)⟩
    refine ⟨fun _ => ?_, fun _ => ?_⟩
    · obtain ⟨Mid, p1, p2⟩ := H1 (E.2 (nI i + 1).toNatClampNeg) h hI
      exact ⟨v1, p1 _ (fun r h1 hm => ⟨v1, p2 r h1 hm _ (fun h2 hI2 => fin r h2 hI2)⟩)⟩
    refine ⟨fun _ => ?_, fun _ => ?_⟩
    · obtain ⟨Mid, p1, p2⟩ := H2 (E.2 (nI i + 1).toNatClampNeg) (E.2 (nI i + 2).toNatClampNeg) (E.2 (nI i + 3).toNatClampNeg) h hI
      exact ⟨v1, ⟨v2, ⟨v3, p1 _ (fun r h1 hm => ⟨v1, ⟨v2, ⟨v3, p2 r h1 hm _ (fun h2 hI2 => fin r h2 hI2)⟩⟩⟩)⟩⟩⟩
    refine ⟨fun _ => ?_, fun _ => ?_⟩
    · obtain ⟨Mid, p1, p2⟩ := H3 (E.2 (nI i + 1).toNatClampNeg) h hI
      exact ⟨v1, p1 _ (fun r h1 hm => ⟨v1, p2 r h1 hm _ (fun h2 hI2 => fin r h2 hI2)⟩)⟩
    refine ⟨fun _ => ?_, fun _ => ?_⟩
    · obtain ⟨Mid, p1, p2⟩ := H4 (E.2 (nI i + 1).toNatClampNeg) (E.2 (nI i + 2).toNatClampNeg) (E.2 (nI i + 3).toNatClampNeg) h hI
      exact ⟨v1, ⟨v2, ⟨v3, p1 _ (fun r h1 hm => ⟨v1, ⟨v2, ⟨v3, p2 r h1 hm _ (fun h2 hI2 => fin r h2 hI2)⟩⟩⟩)⟩⟩⟩
    refine ⟨fun _ => ?_, fun _ => ?_⟩
    · obtain ⟨Mid, p1, p2⟩ := H5 (E.2 (nI i + 1).toNatClampNeg) h hI
      exact ⟨v1, p1 _ (fun r h1 hm => ⟨v1, p2 r h1 hm _ (fun h2 hI2 => fin r h2 hI2)⟩)⟩
    refine ⟨fun _ => ?_, fun _ => ?_⟩
    · obtain ⟨Mid, p1, p2⟩ := H6 (E.2 (nI i + 1).toNatClampNeg) (E.2 (nI i + 2).toNatClampNeg) (E.2 (nI i + 3).toNatClampNeg) (E.2 (nI i + 4).toNatClampNeg) (E.2 (nI i + 5).toNatClampNeg) h hI
      exact ⟨v1, ⟨v2, ⟨v3, ⟨v4, ⟨v5, p1 _ (fun r h1 hm => ⟨v1, ⟨v2, ⟨v3, ⟨v4, ⟨v5, p2 r h1 hm _ (fun h2 hI2 => fin r h2 hI2)⟩⟩⟩⟩⟩)⟩⟩⟩⟩⟩
    refine ⟨fun _ => ?_, fun _ => ?_⟩
    · obtain ⟨Mid, p1, p2⟩ := H7 (E.2 (nI i + 1).toNatClampNeg) h hI
      exact ⟨v1, p1 _ (fun r h1 hm => ⟨v1, p2 r h1 hm _ (fun h2 hI2 => fin r h2 hI2)⟩)⟩
    refine ⟨fun _ => ?_, fun _ => ?_⟩
    · obtain ⟨Mid, p1, p2⟩ := H8 (E.2 (nI i + 1).toNatClampNeg) h hI
      exact ⟨v1, p1 _ (fun r h1 hm => ⟨v1, p2 r h1 hm _ (fun h2 hI2 => fin r h2 hI2)⟩)⟩
    refine ⟨fun _ => ?_, fun _ => ?_⟩
    · obtain ⟨Mid, p1, p2⟩ := H9 (E.2 (nI i + 1).toNatClampNeg) h hI
      exact ⟨v1, p1 _ (fun r h1 hm => ⟨v1, p2 r h1 hm _ (fun h2 hI2 => fin r h2 hI2)⟩)⟩
    refine ⟨fun _ => ?_, fun _ => ?_⟩
    · obtain ⟨Mid, p1, p2⟩ := H10 (E.2 (nI i + 1).toNatClampNeg) (E.2 (nI i + 2).toNatClampNeg) h hI
      exact ⟨v1, ⟨v2, p1 _ (fun r h1 hm => ⟨v1, ⟨v2, p2 r h1 hm _ (fun h2 hI2 => fin r h2 hI2)⟩⟩)⟩⟩
    refine ⟨fun _ => ?_, fun _ => ?_⟩
    · obtain ⟨Mid, p1, p2⟩ := H11 (E.2 (nI i + 1).toNatClampNeg) (E.2 (nI i + 2).toNatClampNeg) h hI
      exact ⟨v1, ⟨v2, p1 _ (fun r h1 hm => ⟨v1, ⟨v2, p2 r h1 hm _ (fun h2 hI2 => fin r h2 hI2)⟩⟩)⟩⟩
    refine ⟨fun _ => ?_, fun _ => ?_⟩
    · obtain ⟨Mid, p1, p2⟩ := H12 (E.2 (nI i + 1).toNatClampNeg) (E.2 (nI i + 2).toNatClampNeg) h hI
      exact ⟨v1, ⟨v2, p1 _ (fun r h1 hm => ⟨v1, ⟨v2, p2 r h1 hm _ (fun h2 hI2 => fin r h2 hI2)⟩⟩)⟩⟩
    refine ⟨fun _ => ?_, fun _ => ?_⟩
    · obtain ⟨Mid, p1, p2⟩ := H13 (E.2 (nI i + 1).toNatClampNeg) (E.2 (nI i + 2).toNatClampNeg) h hI
      exact ⟨v1, ⟨v2, p1 _ (fun r h1 hm => ⟨v1, ⟨v2, p2 r h1 hm _ (fun h2 hI2 => fin r h2 hI2)⟩⟩)⟩⟩
    refine ⟨fun _ => ?_, fun _ => ?_⟩
    · obtain ⟨Mid, p1, p2⟩ := H14 (E.2 (nI i + 1).toNatClampNeg) (E.2 (nI i + 2).toNatClampNeg) h hI
      exact ⟨v1, ⟨v2, p1 _ (fun r h1 hm => ⟨v1, ⟨v2, p2 r h1 hm _ (fun h2 hI2 => fin r h2 hI2)⟩⟩)⟩⟩
    refine ⟨fun _ => ?_, fun _ => ?_⟩
    · obtain ⟨Mid, p1, p2⟩ := H15 (E.2 (nI i + 1).toNatClampNeg) (E.2 (nI i + 2).toNatClampNeg) h hI
      exact ⟨v1, ⟨v2, p1 _ (fun r h1 hm => ⟨v1, ⟨v2, p2 r h1 hm _ (fun h2 hI2 => fin r h2 hI2)⟩⟩)⟩⟩
    refine ⟨fun _ => ?_, fun _ => ?_⟩
    · obtain ⟨Mid, p1, p2⟩ := H16 (E.2 (nI i + 1).toNatClampNeg) (E.2 (nI i + 2).toNatClampNeg) h hI
      exact ⟨v1, ⟨v2, p1 _ (fun r h1 hm => ⟨v1, ⟨v2, p2 r h1 hm _ (fun h2 hI2 => fin r h2 hI2)⟩⟩)⟩⟩
    refine ⟨fun _ => ?_, fun _ => ?_⟩
    · obtain ⟨Mid, p1, p2⟩ := H17 (E.2 (nI i + 1).toNatClampNeg) (E.2 (nI i + 2).toNatClampNeg) h hI
      exact ⟨v1, ⟨v2, p1 _ (fun r h1 hm => ⟨v1, ⟨v2, p2 r h1 hm _ (fun h2 hI2 => fin r h2 hI2)⟩⟩)⟩⟩
    refine ⟨fun _ => ?_, fun _ => ?_⟩
    · obtain ⟨Mid, p1, p2⟩ := H18 (E.2 (nI i + 1).toNatClampNeg) (E.2 (nI i + 2).toNatClampNeg) (E.2 (nI i + 3).toNatClampNeg) h hI
      exact ⟨v1, ⟨v2, ⟨v3, p1 _ (fun r h1 hm => ⟨v1, ⟨v2, ⟨v3, p2 r h1 hm _ (fun h2 hI2 => fin r h2 hI2)⟩⟩⟩)⟩⟩⟩
    refine ⟨fun _ => ?_, fun _ => ?_⟩
    · obtain ⟨Mid, p1, p2⟩ := H19 (E.2 (nI i + 1).toNatClampNeg) (E.2 (nI i + 2).toNatClampNeg) (E.2 (nI i + 3).toNatClampNeg) (E.2 (nI i + 4).toNatClampNeg) h hI
      exact ⟨v1, ⟨v2, ⟨v3, ⟨v4, p1 _ (fun r h1 hm => ⟨v1, ⟨v2, ⟨v3, ⟨v4, p2 r h1 hm _ (fun h2 hI2 => fin r h2 hI2)⟩⟩⟩⟩)⟩⟩⟩⟩
    refine ⟨fun _ => ?_, fun _ => ?_⟩
    · obtain ⟨Mid, p1, p2⟩ := H20 (E.2 (nI i + 1).toNatClampNeg) (E.2 (nI i + 2).toNatClampNeg) h hI
      exact ⟨v1, ⟨v2, p1 _ (fun r h1 hm => ⟨v1, ⟨v2, p2 r h1 hm _ (fun h2 hI2 => fin r h2 hI2)⟩⟩)⟩⟩
    refine ⟨fun _ => ?_, fun _ => ?_⟩
    · obtain ⟨Mid, p1, p2⟩ := H21 (E.2 (nI i + 1).toNatClampNeg) (E.2 (nI i + 2).toNatClampNeg) h hI
      exact ⟨v1, ⟨v2, p1 _ (fun r h1 hm => ⟨v1, ⟨v2, p2 r h1 hm _ (fun h2 hI2 => fin r h2 hI2)⟩⟩)⟩⟩
    refine ⟨fun _ => ?_, fun _ => ?_⟩
    · obtain ⟨Mid, p1, p2⟩ := H22 (E.2 (nI i + 1).toNatClampNeg) (E.2 (nI i + 2).toNatClampNeg) h hI
      exact ⟨v1, ⟨v2, p1 _ (fun r h1 hm => ⟨v1, ⟨v2, p2 r h1 hm _ (fun h2 hI2 => fin r h2 hI2)⟩⟩)⟩⟩
    refine ⟨fun _ => ?_, fun _ => ?_⟩
    · obtain ⟨Mid, p1, p2⟩ := H23 (E.2 (nI i + 1).toNatClampNeg) h hI
      exact ⟨v1, p1 _ (fun r h1 hm => ⟨v1, p2 r h1 hm _ (fun h2 hI2 => fin r h2 hI2)⟩)⟩
    refine ⟨fun _ => ?_, fun _ => ?_⟩
    · obtain ⟨Mid, p1, p2⟩ := H24 (E.2 (nI i + 1).toNatClampNeg) (E.2 (nI i + 2).toNatClampNeg) (E.2 (nI i + 3).toNatClampNeg) h hI
      exact ⟨v1, ⟨v2, ⟨v3, p1 _ (fun r h1 hm => ⟨v1, ⟨v2, ⟨v3, p2 r h1 hm _ (fun h2 hI2 => fin r h2 hI2)⟩⟩⟩)⟩⟩⟩
    refine ⟨fun _ => ?_, fun _ => ?_⟩
    · obtain ⟨Mid, p1, p2⟩ := H25 (E.2 (nI i + 1).toNatClampNeg) h hI
      exact ⟨v1, p1 _ (fun r h1 hm => ⟨v1, p2 r h1 hm _ (fun h2 hI2 => fin r h2 hI2)⟩)⟩
    refine ⟨fun _ => ?_, fun _ => ?_⟩
    · obtain ⟨Mid, p1, p2⟩ := H26 (E.2 (nI i + 1).toNatClampNeg) h hI
      exact ⟨v1, p1 _ (fun r h1 hm => ⟨v1, p2 r h1 hm _ (fun h2 hI2 => fin r h2 hI2)⟩)⟩
    refine ⟨fun _ => ?_, fun _ => ?_⟩
    · obtain ⟨Mid, p1, p2⟩ := H27 h hI
      exact p1 _ (fun r h1 hm => p2 r h1 hm _ (fun h2 hI2 => fin r h2 hI2))
    refine ⟨fun _ => ?_, fun _ => ?_⟩
    · refine ⟨v1, fun cz => ?_, fun cz => ?_⟩
      · obtain ⟨Mid, p1, p2⟩ := H28 0 (Or.inl rfl) h hI
        exact p1 _ (fun r h1 hm => ⟨v1, fun _ => p2 r h1 hm _ (fun h2 hI2 => fin r h2 hI2), fun c9 => absurd cz c9⟩)
      · obtain ⟨Mid, p1, p2⟩ := H28 1 (Or.inr rfl) h hI
        exact p1 _ (fun r h1 hm => ⟨v1, fun c9 => absurd c9 cz, fun _ => p2 r h1 hm _ (fun h2 hI2 => fin r h2 hI2)⟩)
    refine ⟨fun _ => ?_, fun _ => ?_⟩
    · obtain ⟨Mid, p1, p2⟩ := H29 (E.2 (nI i + 1).toNatClampNeg) h hI
      exact ⟨v1, p1 _ (fun r h1 hm => ⟨v1, p2 r h1 hm _ (fun h2 hI2 => fin r h2 hI2)⟩)⟩
    exact nx h hI
