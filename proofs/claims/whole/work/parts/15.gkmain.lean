section GKS3
variable {M : Nat → gk_J} {E : gk_E} {d j : Nat} {cf : Bool} {mc ms : Nat} {Γe : gk_G} {Q : Option Value → gk_H → Prop} {P : gk_P} {O : gk_O} {K : Nat → gk_L → List Value → gk_G → gk_H → Nat → Nat → Prop}
variable {pc nxt tgt : Nat} {L : gk_L} {st : List Value} {Γ : gk_G} {h : gk_H} {nc ns : Nat}
set_option maxHeartbeats 2000000 in
theorem gk_br_sound (hK : gk_KG M E d j cf mc ms Γe Q K) (hi : gk_inv cf mc ms Γe Γ nc ns) {i : Instr} (hw : gk_br K i nxt tgt L st Γ h nc ns) (hn : nxt = pc + 3) (hdg : decode (M j).2.1 pc = .ok (i, 3)) (ht : gk_tgok pc i tgt = true) : gk_Go M E d j cf mc ms Γe Q pc L st Γ h nc ns := by
  subst hn
  unfold gk_br at hw
  split at hw
  · exact gk_go_goto hdg (of_decide_eq_true ht) (hK _ _ _ _ _ _ _ hi hw)
  · intro p l e R s m args below meth c base ro cs D QF H locs ls X hret hrel hS hL hac
    exact lv_if_eq X.1 X.2.1 hdg (of_decide_eq_true ht) (fun c9 => hK _ _ _ _ _ _ _ hi (hw.1 c9) p l e R s m args below meth c base ro cs D QF H locs ls X hret hrel hS hL hac) (fun c9 => hK _ _ _ _ _ _ _ hi (hw.2 c9) p l e R s m args below meth c base ro cs D QF H locs ls X hret hrel hS hL hac)
  · intro p l e R s m args below meth c base ro cs D QF H locs ls X hret hrel hS hL hac
    exact lv_if_ne X.1 X.2.1 hdg (of_decide_eq_true ht) (fun c9 => hK _ _ _ _ _ _ _ hi (hw.1 c9) p l e R s m args below meth c base ro cs D QF H locs ls X hret hrel hS hL hac) (fun c9 => hK _ _ _ _ _ _ _ hi (hw.2 c9) p l e R s m args below meth c base ro cs D QF H locs ls X hret hrel hS hL hac)
  · intro p l e R s m args below meth c base ro cs D QF H locs ls X hret hrel hS hL hac
    exact lv_if_lt X.1 X.2.1 hdg (of_decide_eq_true ht) (fun c9 => hK _ _ _ _ _ _ _ hi (hw.1 c9) p l e R s m args below meth c base ro cs D QF H locs ls X hret hrel hS hL hac) (fun c9 => hK _ _ _ _ _ _ _ hi (hw.2 c9) p l e R s m args below meth c base ro cs D QF H locs ls X hret hrel hS hL hac)
  · intro p l e R s m args below meth c base ro cs D QF H locs ls X hret hrel hS hL hac
    exact lv_if_ge X.1 X.2.1 hdg (of_decide_eq_true ht) (fun c9 => hK _ _ _ _ _ _ _ hi (hw.1 c9) p l e R s m args below meth c base ro cs D QF H locs ls X hret hrel hS hL hac) (fun c9 => hK _ _ _ _ _ _ _ hi (hw.2 c9) p l e R s m args below meth c base ro cs D QF H locs ls X hret hrel hS hL hac)
  · intro p l e R s m args below meth c base ro cs D QF H locs ls X hret hrel hS hL hac
    exact lv_if_gt X.1 X.2.1 hdg (of_decide_eq_true ht) (fun c9 => hK _ _ _ _ _ _ _ hi (hw.1 c9) p l e R s m args below meth c base ro cs D QF H locs ls X hret hrel hS hL hac) (fun c9 => hK _ _ _ _ _ _ _ hi (hw.2 c9) p l e R s m args below meth c base ro cs D QF H locs ls X hret hrel hS hL hac)
  · intro p l e R s m args below meth c base ro cs D QF H locs ls X hret hrel hS hL hac
    exact lv_if_le X.1 X.2.1 hdg (of_decide_eq_true ht) (fun c9 => hK _ _ _ _ _ _ _ hi (hw.1 c9) p l e R s m args below meth c base ro cs D QF H locs ls X hret hrel hS hL hac) (fun c9 => hK _ _ _ _ _ _ _ hi (hw.2 c9) p l e R s m args below meth c base ro cs D QF H locs ls X hret hrel hS hL hac)
  · intro p l e R s m args below meth c base ro cs D QF H locs ls X hret hrel hS hL hac
    exact lv_icmp_eq X.1 X.2.1 hdg (of_decide_eq_true ht) (fun c9 => hK _ _ _ _ _ _ _ hi (hw.1 c9) p l e R s m args below meth c base ro cs D QF H locs ls X hret hrel hS hL hac) (fun c9 => hK _ _ _ _ _ _ _ hi (hw.2 c9) p l e R s m args below meth c base ro cs D QF H locs ls X hret hrel hS hL hac)
  · intro p l e R s m args below meth c base ro cs D QF H locs ls X hret hrel hS hL hac
    exact lv_icmp_ne X.1 X.2.1 hdg (of_decide_eq_true ht) (fun c9 => hK _ _ _ _ _ _ _ hi (hw.1 c9) p l e R s m args below meth c base ro cs D QF H locs ls X hret hrel hS hL hac) (fun c9 => hK _ _ _ _ _ _ _ hi (hw.2 c9) p l e R s m args below meth c base ro cs D QF H locs ls X hret hrel hS hL hac)
  · intro p l e R s m args below meth c base ro cs D QF H locs ls X hret hrel hS hL hac
    exact lv_icmp_lt X.1 X.2.1 hdg (of_decide_eq_true ht) (fun c9 => hK _ _ _ _ _ _ _ hi (hw.1 c9) p l e R s m args below meth c base ro cs D QF H locs ls X hret hrel hS hL hac) (fun c9 => hK _ _ _ _ _ _ _ hi (hw.2 c9) p l e R s m args below meth c base ro cs D QF H locs ls X hret hrel hS hL hac)
  · intro p l e R s m args below meth c base ro cs D QF H locs ls X hret hrel hS hL hac
    exact lv_icmp_ge X.1 X.2.1 hdg (of_decide_eq_true ht) (fun c9 => hK _ _ _ _ _ _ _ hi (hw.1 c9) p l e R s m args below meth c base ro cs D QF H locs ls X hret hrel hS hL hac) (fun c9 => hK _ _ _ _ _ _ _ hi (hw.2 c9) p l e R s m args below meth c base ro cs D QF H locs ls X hret hrel hS hL hac)
  · intro p l e R s m args below meth c base ro cs D QF H locs ls X hret hrel hS hL hac
    exact lv_icmp_gt X.1 X.2.1 hdg (of_decide_eq_true ht) (fun c9 => hK _ _ _ _ _ _ _ hi (hw.1 c9) p l e R s m args below meth c base ro cs D QF H locs ls X hret hrel hS hL hac) (fun c9 => hK _ _ _ _ _ _ _ hi (hw.2 c9) p l e R s m args below meth c base ro cs D QF H locs ls X hret hrel hS hL hac)
  · intro p l e R s m args below meth c base ro cs D QF H locs ls X hret hrel hS hL hac
    exact lv_icmp_le X.1 X.2.1 hdg (of_decide_eq_true ht) (fun c9 => hK _ _ _ _ _ _ _ hi (hw.1 c9) p l e R s m args below meth c base ro cs D QF H locs ls X hret hrel hS hL hac) (fun c9 => hK _ _ _ _ _ _ _ hi (hw.2 c9) p l e R s m args below meth c base ro cs D QF H locs ls X hret hrel hS hL hac)
  · exact gk_go_ifnull (v := none) hdg (of_decide_eq_true ht) (hK _ _ _ _ _ _ _ hi hw)
  · exact gk_go_ifnull (v := some _) hdg (of_decide_eq_true ht) (hK _ _ _ _ _ _ _ hi hw)
  · exact gk_go_ifnonnull (v := none) hdg (of_decide_eq_true ht) (hK _ _ _ _ _ _ _ hi hw)
  · exact gk_go_ifnonnull (v := some _) hdg (of_decide_eq_true ht) (hK _ _ _ _ _ _ _ hi hw)
  · exact absurd hw id
theorem gk_eok_plain {bytes : ByteArray} {i : Instr} (h : (decide (decode bytes pc = .ok (i, gk_ln i)) && (Nat.beq nxt (pc + gk_ln i) && gk_tgok pc i tgt)) = true) : decode bytes pc = .ok (i, gk_ln i) ∧ nxt = pc + gk_ln i ∧ gk_tgok pc i tgt = true := by
  simp only [Bool.and_eq_true, decide_eq_true_eq] at h
  exact ⟨h.1, Nat.eq_of_beq_eq_true h.2.1, h.2.2⟩
theorem gk_sw_imp {x : Int32} {td : Nat} {A B : Nat → Prop} (hAB : ∀ t, A t → B t) : ∀ {sw : List (Int32 × Nat)}, gk_sw x td A sw → gk_sw x td B sw := by
  intro sw
  induction sw with
  | nil => intro h; exact hAB _ h
  | cons q r ih => intro h; exact ⟨fun e => hAB _ (h.1 e), fun e => ih (h.2 e)⟩
set_option maxHeartbeats 4000000 in
/-- ONE INSTRUCTION -/
theorem gk_one_sound {nm : Bool} {tb : gk_T} (ok : gk_ok M j tb P O) (hK : gk_KG M E d j cf mc ms Γe Q K) (hi : gk_inv cf mc ms Γe Γ nc ns) {i : Instr} (hin : (pc, i, nxt, tgt) ∈ tb) (hw : gk_one nm M E d cf mc ms Γe Q P O K pc i nxt tgt L st Γ h nc ns) : gk_Go M E d j cf mc ms Γe Q pc L st Γ h nc ns := by
  obtain ⟨o1, ⟨p1, p2, p3, p4, p5⟩, o3, o4⟩ := ok
  have he := o1 _ hin
  have hx := o3 _ hin
  have plain : (∀ a b c e, i ≠ .tableswitch a b c e) → (∀ a b, i ≠ .lookupswitch a b) → decode (M j).2.1 pc = .ok (i, gk_ln i) ∧ nxt = pc + gk_ln i ∧ gk_tgok pc i tgt = true := by
    intro n1 n2
    unfold gk_eok at he
    split at he
    · rename_i hq; exact absurd hq (n1 _ _ _ _)
    · rename_i hq; exact absurd hq (n2 _ _)
    · exact gk_eok_plain he
  have alu : gk_one nm M E d cf mc ms Γe Q P O K pc i nxt tgt L st Γ h nc ns = (match gk_alu i st with | some st' => K nxt L st' Γ h nc ns | none => False) → gk_Go M E d j cf mc ms Γe Q pc L st Γ h nc ns := by
    intro e
    rw [e] at hw
    split at hw
    · rename_i st' ha
      obtain ⟨h1, h2, -⟩ := plain (fun a b c e q => by rw [q] at ha; simp [gk_alu] at ha) (fun a b q => by rw [q] at ha; simp [gk_alu] at ha)
      rw [h2] at hw
      exact gk_go_alu h1 ha (hK _ _ _ _ _ _ _ hi hw)
    · exact absurd hw id
  cases i <;> first | (exact alu rfl; done) | skip
  case iload n => obtain ⟨h1, h2, -⟩ := plain (by intros; simp) (by intros; simp); exact gk_ld_sound hK hi hw h2 h1 (Or.inl ⟨rfl, Or.inl ⟨rfl, rfl⟩⟩)
  case iload_n n => obtain ⟨h1, h2, -⟩ := plain (by intros; simp) (by intros; simp); exact gk_ld_sound hK hi hw h2 h1 (Or.inl ⟨rfl, Or.inr ⟨n, rfl, rfl, rfl⟩⟩)
  case lload n => obtain ⟨h1, h2, -⟩ := plain (by intros; simp) (by intros; simp); exact gk_ld_sound hK hi hw h2 h1 (Or.inr (Or.inl ⟨rfl, Or.inl ⟨rfl, rfl⟩⟩))
  case lload_n n => obtain ⟨h1, h2, -⟩ := plain (by intros; simp) (by intros; simp); exact gk_ld_sound hK hi hw h2 h1 (Or.inr (Or.inl ⟨rfl, Or.inr ⟨n, rfl, rfl, rfl⟩⟩))
  case aload n =>
    obtain ⟨h1, h2, -⟩ := plain (by intros; simp) (by intros; simp)
    simp only [gk_one] at hw
    split at hw
    · exact gk_ld_sound hK hi hw h2 h1 (Or.inr (Or.inr (Or.inr ⟨rfl, rfl, rfl⟩)))
    · exact gk_ld_sound hK hi hw h2 h1 (Or.inr (Or.inr (Or.inl ⟨rfl, Or.inl ⟨rfl, rfl⟩⟩)))
  case aload_n n => obtain ⟨h1, h2, -⟩ := plain (by intros; simp) (by intros; simp); exact gk_ld_sound hK hi hw h2 h1 (Or.inr (Or.inr (Or.inl ⟨rfl, Or.inr ⟨n, rfl, rfl, rfl⟩⟩)))
  case istore n => obtain ⟨h1, h2, -⟩ := plain (by intros; simp) (by intros; simp); exact gk_sto_sound hK hi hw h2 h1 (Or.inl ⟨rfl, Or.inl ⟨rfl, rfl⟩⟩)
  case istore_n n => obtain ⟨h1, h2, -⟩ := plain (by intros; simp) (by intros; simp); exact gk_sto_sound hK hi hw h2 h1 (Or.inl ⟨rfl, Or.inr ⟨n, rfl, rfl, rfl⟩⟩)
  case lstore n => obtain ⟨h1, h2, -⟩ := plain (by intros; simp) (by intros; simp); exact gk_sto_sound hK hi hw h2 h1 (Or.inr (Or.inl ⟨rfl, Or.inl ⟨rfl, rfl⟩⟩))
  case lstore_n n => obtain ⟨h1, h2, -⟩ := plain (by intros; simp) (by intros; simp); exact gk_sto_sound hK hi hw h2 h1 (Or.inr (Or.inl ⟨rfl, Or.inr ⟨n, rfl, rfl, rfl⟩⟩))
  case astore n => obtain ⟨h1, h2, -⟩ := plain (by intros; simp) (by intros; simp); exact gk_sto_sound hK hi hw h2 h1 (Or.inr (Or.inr ⟨rfl, Or.inl ⟨rfl, rfl⟩⟩))
  case astore_n n => obtain ⟨h1, h2, -⟩ := plain (by intros; simp) (by intros; simp); exact gk_sto_sound hK hi hw h2 h1 (Or.inr (Or.inr ⟨rfl, Or.inr ⟨n, rfl, rfl, rfl⟩⟩))
  case iinc n z =>
    obtain ⟨h1, h2, -⟩ := plain (by intros; simp) (by intros; simp)
    simp only [gk_one] at hw
    split at hw
    · rename_i hl; have hw := gk_nm_use hw; rw [h2] at hw; exact gk_go_iinc hl h1 (hK _ _ _ _ _ _ _ hi hw)
    · exact absurd hw id
  case idiv =>
    obtain ⟨h1, h2, -⟩ := plain (by intros; simp) (by intros; simp)
    simp only [gk_one] at hw
    split at hw
    · rw [h2] at hw
      intro p l e R s m args below meth c base ro cs D QF H locs ls X hret hrel hS hL hac
      exact lv_idiv X.1 X.2.1 h1 hw.1 (hK _ _ _ _ _ _ _ hi hw.2 p l e R s m args below meth c base ro cs D QF H locs ls X hret hrel hS hL hac)
    · exact absurd hw id
  case irem =>
    obtain ⟨h1, h2, -⟩ := plain (by intros; simp) (by intros; simp)
    simp only [gk_one] at hw
    split at hw
    · rw [h2] at hw
      intro p l e R s m args below meth c base ro cs D QF H locs ls X hret hrel hS hL hac
      exact lv_irem X.1 X.2.1 h1 hw.1 (hK _ _ _ _ _ _ _ hi hw.2 p l e R s m args below meth c base ro cs D QF H locs ls X hret hrel hS hL hac)
    · exact absurd hw id
  case iaload => obtain ⟨h1, h2, -⟩ := plain (by intros; simp) (by intros; simp); exact gk_rd_sound (kd := 1) hK hi hw h2 h1
  case caload => obtain ⟨h1, h2, -⟩ := plain (by intros; simp) (by intros; simp); exact gk_rd_sound (kd := 2) hK hi hw h2 h1
  case laload => obtain ⟨h1, h2, -⟩ := plain (by intros; simp) (by intros; simp); exact gk_rd_sound (kd := 3) hK hi hw h2 h1
  case aaload => obtain ⟨h1, h2, -⟩ := plain (by intros; simp) (by intros; simp); exact gk_rd_sound (kd := 4) hK hi hw h2 h1
  case baload => obtain ⟨h1, h2, -⟩ := plain (by intros; simp) (by intros; simp); exact gk_rd_sound (kd := 5) hK hi hw h2 h1
  case iastore => obtain ⟨h1, h2, -⟩ := plain (by intros; simp) (by intros; simp); exact gk_wr_sound (kd := 1) hK hi hw h2 h1
  case castore => obtain ⟨h1, h2, -⟩ := plain (by intros; simp) (by intros; simp); exact gk_wr_sound (kd := 2) hK hi hw h2 h1
  case lastore => obtain ⟨h1, h2, -⟩ := plain (by intros; simp) (by intros; simp); exact gk_wr_sound (kd := 3) hK hi hw h2 h1
  case aastore => obtain ⟨h1, h2, -⟩ := plain (by intros; simp) (by intros; simp); exact gk_wr_sound (kd := 4) hK hi hw h2 h1
  case arraylength => obtain ⟨h1, h2, -⟩ := plain (by intros; simp) (by intros; simp); exact gk_len1_sound hK hi hw h2 h1
  case getfield idx =>
    obtain ⟨h1, h2, -⟩ := plain (by intros; simp) (by intros; simp)
    simp only [gk_one] at hw
    split at hw
    · rename_i e hl; exact gk_gf_sound hK hi (p1 _ (gk_lk_mem hl)) hw h2 h1
    · exact absurd hw id
  case putfield idx =>
    obtain ⟨h1, h2, -⟩ := plain (by intros; simp) (by intros; simp)
    simp only [gk_one] at hw
    split at hw
    · rename_i e hl; exact gk_pf_sound hK hi (p1 _ (gk_lk_mem hl)) hw h2 h1
    · exact absurd hw id
  case getstatic idx =>
    obtain ⟨h1, h2, -⟩ := plain (by intros; simp) (by intros; simp)
    simp only [gk_one] at hw
    rw [h2] at hw
    cases tgt with
    | zero => exact gk_go_static hx h1 (hK _ _ _ _ _ _ _ hi hw)
    | succ t => exact gk_go_static2 hx h1 (hK _ _ _ _ _ _ _ hi hw)
  case ldc idx =>
    obtain ⟨h1, h2, -⟩ := plain (by intros; simp) (by intros; simp)
    simp only [gk_one] at hw
    split at hw
    · rename_i x hl; rw [h2] at hw; exact gk_go_ldc (p3 _ (gk_lk_mem hl)) h1 (hK _ _ _ _ _ _ _ hi hw)
    · rename_i hl
      have hown := hx hl
      rw [h2] at hw
      cases hb : Nat.beq idx 57 with
      | true =>
        rw [hb] at hw
        have := Nat.eq_of_beq_eq_true hb
        exact gk_go_ldcs (i := 0) (Or.inl ⟨this, rfl⟩) hown h1 (hK _ _ _ _ _ _ _ hi hw)
      | false =>
        rw [hb] at hw
        obtain ⟨h3, h4⟩ := gk_bif hw
        have := Nat.eq_of_beq_eq_true h3
        exact gk_go_ldcs (i := 1) (Or.inr ⟨this, rfl⟩) hown h1 (hK _ _ _ _ _ _ _ hi h4)
  case ldc_w idx =>
    obtain ⟨h1, h2, -⟩ := plain (by intros; simp) (by intros; simp)
    simp only [gk_one] at hw
    split at hw
    · rename_i x hl; rw [h2] at hw; exact gk_go_ldcw (p3 _ (gk_lk_mem hl)) h1 (hK _ _ _ _ _ _ _ hi hw)
    · exact absurd hw id
  case ldc2_w idx =>
    obtain ⟨h1, h2, -⟩ := plain (by intros; simp) (by intros; simp)
    simp only [gk_one] at hw
    split at hw
    · rename_i x hl; rw [h2] at hw; exact gk_go_ldc2 (p4 _ (gk_lk_mem hl)) h1 (hK _ _ _ _ _ _ _ hi hw)
    · exact absurd hw id
  case tableswitch a b c e =>
    have h1 := of_decide_eq_true he
    simp only [gk_one] at hw
    split at hw
    · rename_i x r q hl
      exact gk_go_table h1 (hx _ hl) (gk_sw_imp (fun t ht => hK _ _ _ _ _ _ _ hi ht) hw)
    · exact absurd hw id
  case lookupswitch a b =>
    have h1 := of_decide_eq_true he
    simp only [gk_one] at hw
    split at hw
    · rename_i x r q hl
      exact gk_go_lookup h1 (hx _ hl) (gk_sw_imp (fun t ht => hK _ _ _ _ _ _ _ hi ht) hw)
    · exact absurd hw id
  case goto o => obtain ⟨h1, h2, h3⟩ := plain (by intros; simp) (by intros; simp); exact gk_br_sound (i := .goto o) (nxt := nxt) (tgt := tgt) hK hi hw h2 h1 h3
  case ifCond c o => obtain ⟨h1, h2, h3⟩ := plain (by intros; simp) (by intros; simp); exact gk_br_sound hK hi hw h2 h1 h3
  case if_icmp c o => obtain ⟨h1, h2, h3⟩ := plain (by intros; simp) (by intros; simp); exact gk_br_sound hK hi hw h2 h1 h3
  case ifnull o => obtain ⟨h1, h2, h3⟩ := plain (by intros; simp) (by intros; simp); exact gk_br_sound hK hi hw h2 h1 h3
  case ifnonnull o => obtain ⟨h1, h2, h3⟩ := plain (by intros; simp) (by intros; simp); exact gk_br_sound hK hi hw h2 h1 h3
  case invokevirtual idx =>
    obtain ⟨h1, h2, -⟩ := plain (by intros; simp) (by intros; simp)
    simp only [gk_one] at hw
    split at hw
    · rename_i e hl; exact gk_in_sound hK hi (p2 _ (gk_lk_mem hl)) hw h2 h1 (Or.inl rfl)
    · exact absurd hw id
  case invokestatic idx =>
    obtain ⟨h1, h2, -⟩ := plain (by intros; simp) (by intros; simp)
    simp only [gk_one] at hw
    split at hw
    · rename_i e hl; exact gk_in_sound hK hi (p2 _ (gk_lk_mem hl)) hw h2 h1 (Or.inr (Or.inl rfl))
    · exact absurd hw id
  case invokespecial idx =>
    obtain ⟨h1, h2, -⟩ := plain (by intros; simp) (by intros; simp)
    simp only [gk_one] at hw
    split at hw
    · rename_i e hl; exact gk_in_sound hK hi (p2 _ (gk_lk_mem hl)) hw h2 h1 (Or.inr (Or.inr rfl))
    · exact absurd hw id
  case return_ => obtain ⟨h1, h2, -⟩ := plain (by intros; simp) (by intros; simp); exact gk_rtn_sound hi o4 hw h1
  case lreturn => obtain ⟨h1, h2, -⟩ := plain (by intros; simp) (by intros; simp); exact gk_rtn_sound hi o4 hw h1
  case ireturn => obtain ⟨h1, h2, -⟩ := plain (by intros; simp) (by intros; simp); exact gk_rtn_sound hi o4 hw h1
  case new idx => obtain ⟨h1, h2, -⟩ := plain (by intros; simp) (by intros; simp); exact gk_nw_sound (len := 0) hK p5 hw h2 h1
  case newarray t => obtain ⟨h1, h2, -⟩ := plain (by intros; simp) (by intros; simp); exact gk_nw_sound (len := 0) hK p5 hw h2 h1
  case anewarray idx => obtain ⟨h1, h2, -⟩ := plain (by intros; simp) (by intros; simp); exact gk_nw_sound (len := 0) hK p5 hw h2 h1
end GKS3
/-- the locals that are still read -/
def gk_mask : List Bool → gk_L → gk_L
  | b :: bs, v :: L => (bif b then v else none) :: gk_mask bs L
  | [], v :: L => none :: gk_mask [] L
  | _, [] => []
theorem gk_mask_len : ∀ (L : gk_L) (bs : List Bool), (gk_mask bs L).length = L.length := by
  intro L
  induction L with
  | nil => intro bs; cases bs <;> rfl
  | cons v L ih => intro bs; cases bs <;> simp [gk_mask, ih]
theorem gk_mask_get : ∀ (L : gk_L) (bs : List Bool) (i : Nat) (v : Value), (gk_mask bs L)[i]? = some (some v) → L[i]? = some (some v) := by
  intro L
  induction L with
  | nil => intro bs i v h; cases bs <;> cases h
  | cons w L ih =>
    intro bs i v h
    cases bs with
    | nil =>
      cases i with
      | zero => cases h
      | succ i => exact ih [] i v h
    | cons b bs =>
      cases i with
      | zero => cases b with
        | true => exact h
        | false => cases h
      | succ i => exact ih bs i v h
def gk_isw (i : Instr) (tgt : Nat) : Bool := match i with
  | .putfield _ | .iastore | .castore | .lastore => true
  | .invokestatic _ => Nat.beq tgt 1
  | _ => false
/-- THE WALK: n instructions at most; at a head it stops and asks the judgement itself, with the locals that are still read -/
def gk_wp (nm nh : Bool) (M : Nat → gk_J) (E : gk_E) (d j : Nat) (cf : Bool) (mc ms : Nat) (Γe : gk_G) (Q : Option Value → gk_H → Prop) (tb : gk_T) (P : gk_P) (O : gk_O) (hd : List (Nat × List Bool)) : Nat → Nat → gk_L → List Value → gk_G → gk_H → Nat → Nat → Prop
  | 0, pc, L, st, Γ, h, nc, ns => gk_Go M E d j cf mc ms Γe Q pc L st Γ h nc ns
  | n + 1, pc, L, st, Γ, h, nc, ns => match gk_lk tb pc with
    | none => False
    | some (i, nxt, tgt) => gk_one nm M E d cf mc ms Γe Q P O (fun pc' L' st' Γ' h0 nc' ns' => gk_nm (nh && gk_isw i tgt) h0 (fun h' => match gk_lk hd pc' with
      | some bs => gk_Go M E d j cf mc ms Γe Q pc' (gk_mask bs L') st' Γ' h' nc' ns'
      | none => gk_wp nm nh M E d j cf mc ms Γe Q tb P O hd n pc' L' st' Γ' h' nc' ns')) pc i nxt tgt L st Γ h nc ns
theorem gk_wp_sound {nm nh : Bool} {M : Nat → gk_J} {E : gk_E} {d j : Nat} {cf : Bool} {mc ms : Nat} {Γe : gk_G} {Q : Option Value → gk_H → Prop} {tb : gk_T} {P : gk_P} {O : gk_O} {hd : List (Nat × List Bool)} (ok : gk_ok M j tb P O) : ∀ (n pc : Nat) (L : gk_L) (st : List Value) (Γ : gk_G) (h : gk_H) (nc ns : Nat), gk_inv cf mc ms Γe Γ nc ns → gk_wp nm nh M E d j cf mc ms Γe Q tb P O hd n pc L st Γ h nc ns → gk_Go M E d j cf mc ms Γe Q pc L st Γ h nc ns := by
  intro n
  induction n with
  | zero => intro pc L st Γ h nc ns _ hw; exact hw
  | succ n ih =>
    intro pc L st Γ h nc ns hi hw
    rw [gk_wp] at hw
    split at hw
    · exact absurd hw id
    · rename_i i nxt tgt hl
      refine gk_one_sound ok ?_ hi (gk_lk_mem hl) hw
      intro pc' L' st' Γ' h' nc' ns' hi' hk
      have hk := gk_nm_use hk
      split at hk
      · exact gk_go_mono (gk_mask_len _ _) (gk_mask_get _ _) hk
      · exact ih _ _ _ _ _ _ _ hi' hk
