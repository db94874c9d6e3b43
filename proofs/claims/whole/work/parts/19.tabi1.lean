/-! the instructions (written by a program) -/
def gk_xokb (own : String) (P : gk_P) (sw : List (Nat × List (Int32 × Nat) × Nat)) (q : Nat × Instr × Nat × Nat) : Bool := match q.2.1 with
  | .tableswitch a b c e => match gk_lk sw q.1 with
    | some z => gk_tokb q.1 a b c e z.1 z.2
    | none => true
  | .lookupswitch a b => match gk_lk sw q.1 with
    | some z => gk_lokb q.1 a b z.1 z.2
    | none => true
  | .getstatic _ => false
  | .ldc idx => (gk_lk P.2.2.1 idx).isSome || decide (own = "DryPlaces$Tape")
  | _ => true
theorem gk_xok_of {own : String} {P : gk_P} {rk : Nat} {sw : List (Nat × List (Int32 × Nat) × Nat)} {oG : List (Nat × gk_G)} {q : Nat × Instr × Nat × Nat} (h : gk_xokb own P sw q = true) : gk_xok own P (rk, sw, oG) q := by
  obtain ⟨pc, i, nxt, tgt⟩ := q
  cases i <;> first | exact trivial | skip
  case tableswitch a b c e =>
    intro z hz
    have hz : gk_lk sw pc = some z := hz
    simp only [gk_xokb, hz] at h
    exact h
  case lookupswitch a b =>
    intro z hz
    have hz : gk_lk sw pc = some z := hz
    simp only [gk_xokb, hz] at h
    exact h
  case getstatic idx => cases h
  case ldc idx =>
    intro hz
    have hz : gk_lk P.2.2.1 idx = none := hz
    simp only [gk_xokb, hz] at h
    simpa using h
def tb_mo_isIn : gk_T := [(0, .iload_n 1, 1, 0), (1, .iload_n 2, 2, 0), (2, .if_icmp .lt 12, 5, 14), (5, .iload_n 1, 6, 0), (6, .iload_n 3, 7, 0), (7, .if_icmp .gt 7, 10, 14), (10, .iconst 1, 11, 0), (11, .goto 4, 14, 15), (14, .iconst 0, 15, 0), (15, .ireturn, 16, 0)]
def sw_mo_isIn : List (Nat × List (Int32 × Nat) × Nat) := []
set_option maxRecDepth 100000 in
theorem te_mo_isIn : ∀ q ∈ tb_mo_isIn, gk_eok (gk_M 163).2.1 q = true := by decide +kernel
set_option maxRecDepth 100000 in
theorem tx_mo_isIn (oG : List (Nat × gk_G)) : ∀ q ∈ tb_mo_isIn, gk_xok "DryPlacesModel" pl_mo (3, sw_mo_isIn, oG) q := by
  have h : tb_mo_isIn.all (fun q => gk_xokb "DryPlacesModel" pl_mo sw_mo_isIn q) = true := by decide +kernel
  exact fun q hq => gk_xok_of (List.all_eq_true.mp h q hq)
theorem ok_mo_isIn (oG : List (Nat × gk_G)) : gk_ok gk_M 163 tb_mo_isIn pl_mo (3, sw_mo_isIn, oG) := ⟨te_mo_isIn, pk_mo, tx_mo_isIn oG, rfl⟩
def tb_mo_held : gk_T := [(0, .iload_n 1, 1, 0), (1, .iload_n 2, 2, 0), (2, .if_icmp .ge 7, 5, 9), (5, .iload_n 2, 6, 0), (6, .goto 13, 9, 19), (9, .iload_n 1, 10, 0), (10, .iload_n 3, 11, 0), (11, .if_icmp .le 7, 14, 18), (14, .iload_n 3, 15, 0), (15, .goto 4, 18, 19), (18, .iload_n 1, 19, 0), (19, .ireturn, 20, 0)]
def sw_mo_held : List (Nat × List (Int32 × Nat) × Nat) := []
set_option maxRecDepth 100000 in
theorem te_mo_held : ∀ q ∈ tb_mo_held, gk_eok (gk_M 164).2.1 q = true := by decide +kernel
set_option maxRecDepth 100000 in
theorem tx_mo_held (oG : List (Nat × gk_G)) : ∀ q ∈ tb_mo_held, gk_xok "DryPlacesModel" pl_mo (1, sw_mo_held, oG) q := by
  have h : tb_mo_held.all (fun q => gk_xokb "DryPlacesModel" pl_mo sw_mo_held q) = true := by decide +kernel
  exact fun q hq => gk_xok_of (List.all_eq_true.mp h q hq)
theorem ok_mo_held (oG : List (Nat × gk_G)) : gk_ok gk_M 164 tb_mo_held pl_mo (1, sw_mo_held, oG) := ⟨te_mo_held, pk_mo, tx_mo_held oG, rfl⟩
def tb_mo_greater : gk_T := [(0, .iload_n 1, 1, 0), (1, .iload_n 2, 2, 0), (2, .if_icmp .le 7, 5, 9), (5, .iload_n 1, 6, 0), (6, .goto 4, 9, 10), (9, .iload_n 2, 10, 0), (10, .ireturn, 11, 0)]
def sw_mo_greater : List (Nat × List (Int32 × Nat) × Nat) := []
set_option maxRecDepth 100000 in
theorem te_mo_greater : ∀ q ∈ tb_mo_greater, gk_eok (gk_M 165).2.1 q = true := by decide +kernel
set_option maxRecDepth 100000 in
theorem tx_mo_greater (oG : List (Nat × gk_G)) : ∀ q ∈ tb_mo_greater, gk_xok "DryPlacesModel" pl_mo (1, sw_mo_greater, oG) q := by
  have h : tb_mo_greater.all (fun q => gk_xokb "DryPlacesModel" pl_mo sw_mo_greater q) = true := by decide +kernel
  exact fun q hq => gk_xok_of (List.all_eq_true.mp h q hq)
theorem ok_mo_greater (oG : List (Nat × gk_G)) : gk_ok gk_M 165 tb_mo_greater pl_mo (1, sw_mo_greater, oG) := ⟨te_mo_greater, pk_mo, tx_mo_greater oG, rfl⟩
def tb_mo_lesser : gk_T := [(0, .iload_n 1, 1, 0), (1, .iload_n 2, 2, 0), (2, .if_icmp .ge 7, 5, 9), (5, .iload_n 1, 6, 0), (6, .goto 4, 9, 10), (9, .iload_n 2, 10, 0), (10, .ireturn, 11, 0)]
def sw_mo_lesser : List (Nat × List (Int32 × Nat) × Nat) := []
set_option maxRecDepth 100000 in
theorem te_mo_lesser : ∀ q ∈ tb_mo_lesser, gk_eok (gk_M 166).2.1 q = true := by decide +kernel
set_option maxRecDepth 100000 in
theorem tx_mo_lesser (oG : List (Nat × gk_G)) : ∀ q ∈ tb_mo_lesser, gk_xok "DryPlacesModel" pl_mo (1, sw_mo_lesser, oG) q := by
  have h : tb_mo_lesser.all (fun q => gk_xokb "DryPlacesModel" pl_mo sw_mo_lesser q) = true := by decide +kernel
  exact fun q hq => gk_xok_of (List.all_eq_true.mp h q hq)
theorem ok_mo_lesser (oG : List (Nat × gk_G)) : gk_ok gk_M 166 tb_mo_lesser pl_mo (1, sw_mo_lesser, oG) := ⟨te_mo_lesser, pk_mo, tx_mo_lesser oG, rfl⟩
def tb_mo_apart : gk_T := [(0, .iload_n 1, 1, 0), (1, .iload_n 2, 2, 0), (2, .if_icmp .le 9, 5, 11), (5, .iload_n 1, 6, 0), (6, .iload_n 2, 7, 0), (7, .isub, 8, 0), (8, .goto 6, 11, 14), (11, .iload_n 2, 12, 0), (12, .iload_n 1, 13, 0), (13, .isub, 14, 0), (14, .ireturn, 15, 0)]
def sw_mo_apart : List (Nat × List (Int32 × Nat) × Nat) := []
set_option maxRecDepth 100000 in
theorem te_mo_apart : ∀ q ∈ tb_mo_apart, gk_eok (gk_M 167).2.1 q = true := by decide +kernel
set_option maxRecDepth 100000 in
theorem tx_mo_apart (oG : List (Nat × gk_G)) : ∀ q ∈ tb_mo_apart, gk_xok "DryPlacesModel" pl_mo (1, sw_mo_apart, oG) q := by
  have h : tb_mo_apart.all (fun q => gk_xokb "DryPlacesModel" pl_mo sw_mo_apart q) = true := by decide +kernel
  exact fun q hq => gk_xok_of (List.all_eq_true.mp h q hq)
theorem ok_mo_apart (oG : List (Nat × gk_G)) : gk_ok gk_M 167 tb_mo_apart pl_mo (1, sw_mo_apart, oG) := ⟨te_mo_apart, pk_mo, tx_mo_apart oG, rfl⟩
def tb_mo_onesOf : gk_T := [(0, .iconst 0, 1, 0), (1, .istore_n 2, 2, 0), (2, .iload_n 1, 3, 0), (3, .istore_n 3, 4, 0), (4, .iload_n 3, 5, 0), (5, .ifCond .eq 16, 8, 21), (8, .iload_n 2, 9, 0), (9, .iconst 1, 10, 0), (10, .iadd, 11, 0), (11, .istore_n 2, 12, 0), (12, .iload_n 3, 13, 0), (13, .iload_n 3, 14, 0), (14, .iconst 1, 15, 0), (15, .isub, 16, 0), (16, .iand, 17, 0), (17, .istore_n 3, 18, 0), (18, .goto (-14), 21, 4), (21, .iload_n 2, 22, 0), (22, .ireturn, 23, 0)]
def sw_mo_onesOf : List (Nat × List (Int32 × Nat) × Nat) := []
set_option maxRecDepth 100000 in
theorem te_mo_onesOf : ∀ q ∈ tb_mo_onesOf, gk_eok (gk_M 168).2.1 q = true := by decide +kernel
set_option maxRecDepth 100000 in
theorem tx_mo_onesOf (oG : List (Nat × gk_G)) : ∀ q ∈ tb_mo_onesOf, gk_xok "DryPlacesModel" pl_mo (1, sw_mo_onesOf, oG) q := by
  have h : tb_mo_onesOf.all (fun q => gk_xokb "DryPlacesModel" pl_mo sw_mo_onesOf q) = true := by decide +kernel
  exact fun q hq => gk_xok_of (List.all_eq_true.mp h q hq)
theorem ok_mo_onesOf (oG : List (Nat × gk_G)) : gk_ok gk_M 168 tb_mo_onesOf pl_mo (1, sw_mo_onesOf, oG) := ⟨te_mo_onesOf, pk_mo, tx_mo_onesOf oG, rfl⟩
def tb_mo_has : gk_T := [(0, .iload_n 1, 1, 0), (1, .iload_n 2, 2, 0), (2, .ishr, 3, 0), (3, .iconst 1, 4, 0), (4, .iand, 5, 0), (5, .iconst 1, 6, 0), (6, .if_icmp .ne 7, 9, 13), (9, .iconst 1, 10, 0), (10, .goto 4, 13, 14), (13, .iconst 0, 14, 0), (14, .ireturn, 15, 0)]
def sw_mo_has : List (Nat × List (Int32 × Nat) × Nat) := []
set_option maxRecDepth 100000 in
theorem te_mo_has : ∀ q ∈ tb_mo_has, gk_eok (gk_M 169).2.1 q = true := by decide +kernel
set_option maxRecDepth 100000 in
theorem tx_mo_has (oG : List (Nat × gk_G)) : ∀ q ∈ tb_mo_has, gk_xok "DryPlacesModel" pl_mo (3, sw_mo_has, oG) q := by
  have h : tb_mo_has.all (fun q => gk_xokb "DryPlacesModel" pl_mo sw_mo_has q) = true := by decide +kernel
  exact fun q hq => gk_xok_of (List.all_eq_true.mp h q hq)
theorem ok_mo_has (oG : List (Nat × gk_G)) : gk_ok gk_M 169 tb_mo_has pl_mo (3, sw_mo_has, oG) := ⟨te_mo_has, pk_mo, tx_mo_has oG, rfl⟩
def tb_mo_keepsAhead : gk_T := [(0, .aload_n 0, 1, 0), (1, .getfield 113, 4, 0), (4, .bipush 6, 6, 0), (6, .if_icmp .ne 49, 9, 55), (9, .aload_n 0, 10, 0), (10, .aload_n 0, 11, 0), (11, .getfield 113, 14, 0), (14, .iconst 1, 15, 0), (15, .isub, 16, 0), (16, .putfield 113, 19, 0), (19, .iconst 0, 20, 0), (20, .istore_n 1, 21, 0), (21, .iload_n 1, 22, 0), (22, .sipush 131, 25, 0), (25, .aload_n 0, 26, 0), (26, .getfield 113, 29, 0), (29, .imul, 30, 0), (30, .if_icmp .ge 25, 33, 55), (33, .aload_n 0, 34, 0), (34, .getfield 13, 37, 0), (37, .iload_n 1, 38, 0), (38, .aload_n 0, 39, 0), (39, .getfield 13, 42, 0), (42, .iload_n 1, 43, 0), (43, .sipush 131, 46, 0), (46, .iadd, 47, 0), (47, .iaload, 48, 0), (48, .iastore, 49, 0), (49, .iinc 1 1, 52, 0), (52, .goto (-31), 55, 21), (55, .iconst 0, 56, 0), (56, .istore_n 1, 57, 0), (57, .iload_n 1, 58, 0), (58, .sipush 131, 61, 0), (61, .if_icmp .ge 30, 64, 91), (64, .aload_n 0, 65, 0), (65, .getfield 13, 68, 0), (68, .sipush 131, 71, 0), (71, .aload_n 0, 72, 0), (72, .getfield 113, 75, 0), (75, .imul, 76, 0), (76, .iload_n 1, 77, 0), (77, .iadd, 78, 0), (78, .aload_n 0, 79, 0), (79, .getfield 7, 82, 0), (82, .iload_n 1, 83, 0), (83, .iaload, 84, 0), (84, .iastore, 85, 0), (85, .iinc 1 1, 88, 0), (88, .goto (-31), 91, 57), (91, .aload_n 0, 92, 0), (92, .aload_n 0, 93, 0), (93, .getfield 113, 96, 0), (96, .iconst 1, 97, 0), (97, .iadd, 98, 0), (98, .putfield 113, 101, 0), (101, .return_, 102, 0)]
def sw_mo_keepsAhead : List (Nat × List (Int32 × Nat) × Nat) := []
set_option maxRecDepth 100000 in
theorem te_mo_keepsAhead : ∀ q ∈ tb_mo_keepsAhead, gk_eok (gk_M 170).2.1 q = true := by decide +kernel
set_option maxRecDepth 100000 in
theorem tx_mo_keepsAhead (oG : List (Nat × gk_G)) : ∀ q ∈ tb_mo_keepsAhead, gk_xok "DryPlacesModel" pl_mo (0, sw_mo_keepsAhead, oG) q := by
  have h : tb_mo_keepsAhead.all (fun q => gk_xokb "DryPlacesModel" pl_mo sw_mo_keepsAhead q) = true := by decide +kernel
  exact fun q hq => gk_xok_of (List.all_eq_true.mp h q hq)
theorem ok_mo_keepsAhead (oG : List (Nat × gk_G)) : gk_ok gk_M 170 tb_mo_keepsAhead pl_mo (0, sw_mo_keepsAhead, oG) := ⟨te_mo_keepsAhead, pk_mo, tx_mo_keepsAhead oG, rfl⟩
def tb_mo_undo : gk_T := [(0, .aload_n 0, 1, 0), (1, .iconst 0, 2, 0), (2, .putfield 110, 5, 0), (5, .aload_n 0, 6, 0), (6, .getfield 113, 9, 0), (9, .ifCond .ne 5, 12, 14), (12, .iconst 0, 13, 0), (13, .ireturn, 14, 0), (14, .aload_n 0, 15, 0), (15, .aload_n 0, 16, 0), (16, .getfield 113, 19, 0), (19, .iconst 1, 20, 0), (20, .isub, 21, 0), (21, .putfield 113, 24, 0), (24, .iconst 0, 25, 0), (25, .istore_n 1, 26, 0), (26, .iload_n 1, 27, 0), (27, .sipush 131, 30, 0), (30, .if_icmp .ge 30, 33, 60), (33, .aload_n 0, 34, 0), (34, .getfield 7, 37, 0), (37, .iload_n 1, 38, 0), (38, .aload_n 0, 39, 0), (39, .getfield 13, 42, 0), (42, .sipush 131, 45, 0), (45, .aload_n 0, 46, 0), (46, .getfield 113, 49, 0), (49, .imul, 50, 0), (50, .iload_n 1, 51, 0), (51, .iadd, 52, 0), (52, .iaload, 53, 0), (53, .iastore, 54, 0), (54, .iinc 1 1, 57, 0), (57, .goto (-31), 60, 26), (60, .iconst 1, 61, 0), (61, .ireturn, 62, 0)]
def sw_mo_undo : List (Nat × List (Int32 × Nat) × Nat) := []
set_option maxRecDepth 100000 in
theorem te_mo_undo : ∀ q ∈ tb_mo_undo, gk_eok (gk_M 171).2.1 q = true := by decide +kernel
set_option maxRecDepth 100000 in
theorem tx_mo_undo (oG : List (Nat × gk_G)) : ∀ q ∈ tb_mo_undo, gk_xok "DryPlacesModel" pl_mo (3, sw_mo_undo, oG) q := by
  have h : tb_mo_undo.all (fun q => gk_xokb "DryPlacesModel" pl_mo sw_mo_undo q) = true := by decide +kernel
  exact fun q hq => gk_xok_of (List.all_eq_true.mp h q hq)
theorem ok_mo_undo (oG : List (Nat × gk_G)) : gk_ok gk_M 171 tb_mo_undo pl_mo (3, sw_mo_undo, oG) := ⟨te_mo_undo, pk_mo, tx_mo_undo oG, rfl⟩
def tb_mo_thinks : gk_T := [(0, .iconst 0, 1, 0), (1, .istore_n 1, 2, 0), (2, .iload_n 1, 3, 0), (3, .sipush 131, 6, 0), (6, .if_icmp .ge 21, 9, 27), (9, .aload_n 0, 10, 0), (10, .getfield 16, 13, 0), (13, .iload_n 1, 14, 0), (14, .aload_n 0, 15, 0), (15, .getfield 7, 18, 0), (18, .iload_n 1, 19, 0), (19, .iaload, 20, 0), (20, .iastore, 21, 0), (21, .iinc 1 1, 24, 0), (24, .goto (-22), 27, 2), (27, .aload_n 0, 28, 0), (28, .iconst 1, 29, 0), (29, .putfield 116, 32, 0), (32, .return_, 33, 0)]
def sw_mo_thinks : List (Nat × List (Int32 × Nat) × Nat) := []
set_option maxRecDepth 100000 in
theorem te_mo_thinks : ∀ q ∈ tb_mo_thinks, gk_eok (gk_M 172).2.1 q = true := by decide +kernel
set_option maxRecDepth 100000 in
theorem tx_mo_thinks (oG : List (Nat × gk_G)) : ∀ q ∈ tb_mo_thinks, gk_xok "DryPlacesModel" pl_mo (0, sw_mo_thinks, oG) q := by
  have h : tb_mo_thinks.all (fun q => gk_xokb "DryPlacesModel" pl_mo sw_mo_thinks q) = true := by decide +kernel
  exact fun q hq => gk_xok_of (List.all_eq_true.mp h q hq)
theorem ok_mo_thinks (oG : List (Nat × gk_G)) : gk_ok gk_M 172 tb_mo_thinks pl_mo (0, sw_mo_thinks, oG) := ⟨te_mo_thinks, pk_mo, tx_mo_thinks oG, rfl⟩
def tb_mo_endsThought : gk_T := [(0, .iconst 0, 1, 0), (1, .istore_n 1, 2, 0), (2, .iload_n 1, 3, 0), (3, .sipush 131, 6, 0), (6, .if_icmp .ge 21, 9, 27), (9, .aload_n 0, 10, 0), (10, .getfield 7, 13, 0), (13, .iload_n 1, 14, 0), (14, .aload_n 0, 15, 0), (15, .getfield 16, 18, 0), (18, .iload_n 1, 19, 0), (19, .iaload, 20, 0), (20, .iastore, 21, 0), (21, .iinc 1 1, 24, 0), (24, .goto (-22), 27, 2), (27, .aload_n 0, 28, 0), (28, .iconst 0, 29, 0), (29, .putfield 116, 32, 0), (32, .return_, 33, 0)]
def sw_mo_endsThought : List (Nat × List (Int32 × Nat) × Nat) := []
set_option maxRecDepth 100000 in
theorem te_mo_endsThought : ∀ q ∈ tb_mo_endsThought, gk_eok (gk_M 173).2.1 q = true := by decide +kernel
set_option maxRecDepth 100000 in
theorem tx_mo_endsThought (oG : List (Nat × gk_G)) : ∀ q ∈ tb_mo_endsThought, gk_xok "DryPlacesModel" pl_mo (0, sw_mo_endsThought, oG) q := by
  have h : tb_mo_endsThought.all (fun q => gk_xokb "DryPlacesModel" pl_mo sw_mo_endsThought q) = true := by decide +kernel
  exact fun q hq => gk_xok_of (List.all_eq_true.mp h q hq)
theorem ok_mo_endsThought (oG : List (Nat × gk_G)) : gk_ok gk_M 173 tb_mo_endsThought pl_mo (0, sw_mo_endsThought, oG) := ⟨te_mo_endsThought, pk_mo, tx_mo_endsThought oG, rfl⟩
def tb_mo_state : gk_T := [(0, .aload_n 0, 1, 0), (1, .iconst 0, 2, 0), (2, .putfield 110, 5, 0), (5, .aload_n 0, 6, 0), (6, .getfield 7, 9, 0), (9, .iconst 1, 10, 0), (10, .iaload, 11, 0), (11, .istore_n 2, 12, 0), (12, .aload_n 0, 13, 0), (13, .getfield 7, 16, 0), (16, .iconst 1, 17, 0), (17, .iload_n 1, 18, 0), (18, .iastore, 19, 0), (19, .aload_n 0, 20, 0), (20, .iconst 0, 21, 0), (21, .putfield 113, 24, 0), (24, .iload_n 2, 25, 0), (25, .ireturn, 26, 0)]
def sw_mo_state : List (Nat × List (Int32 × Nat) × Nat) := []
set_option maxRecDepth 100000 in
theorem te_mo_state : ∀ q ∈ tb_mo_state, gk_eok (gk_M 174).2.1 q = true := by decide +kernel
set_option maxRecDepth 100000 in
theorem tx_mo_state (oG : List (Nat × gk_G)) : ∀ q ∈ tb_mo_state, gk_xok "DryPlacesModel" pl_mo (1, sw_mo_state, oG) q := by
  have h : tb_mo_state.all (fun q => gk_xokb "DryPlacesModel" pl_mo sw_mo_state q) = true := by decide +kernel
  exact fun q hq => gk_xok_of (List.all_eq_true.mp h q hq)
theorem ok_mo_state (oG : List (Nat × gk_G)) : gk_ok gk_M 174 tb_mo_state pl_mo (1, sw_mo_state, oG) := ⟨te_mo_state, pk_mo, tx_mo_state oG, rfl⟩
def tb_mo_draw : gk_T := [(0, .aload_n 0, 1, 0), (1, .getfield 7, 4, 0), (4, .iconst 1, 5, 0), (5, .ldc 120, 7, 0), (7, .aload_n 0, 8, 0), (8, .getfield 7, 11, 0), (11, .iconst 1, 12, 0), (12, .iaload, 13, 0), (13, .imul, 14, 0), (14, .ldc 121, 16, 0), (16, .iadd, 17, 0), (17, .iastore, 18, 0), (18, .aload_n 0, 19, 0), (19, .getfield 7, 22, 0), (22, .iconst 1, 23, 0), (23, .iaload, 24, 0), (24, .bipush 8, 26, 0), (26, .iushr, 27, 0), (27, .iload_n 1, 28, 0), (28, .irem, 29, 0), (29, .ireturn, 30, 0)]
def sw_mo_draw : List (Nat × List (Int32 × Nat) × Nat) := []
set_option maxRecDepth 100000 in
theorem te_mo_draw : ∀ q ∈ tb_mo_draw, gk_eok (gk_M 175).2.1 q = true := by decide +kernel
set_option maxRecDepth 100000 in
theorem tx_mo_draw (oG : List (Nat × gk_G)) : ∀ q ∈ tb_mo_draw, gk_xok "DryPlacesModel" pl_mo (1, sw_mo_draw, oG) q := by
  have h : tb_mo_draw.all (fun q => gk_xokb "DryPlacesModel" pl_mo sw_mo_draw q) = true := by decide +kernel
  exact fun q hq => gk_xok_of (List.all_eq_true.mp h q hq)
theorem ok_mo_draw (oG : List (Nat × gk_G)) : gk_ok gk_M 175 tb_mo_draw pl_mo (1, sw_mo_draw, oG) := ⟨te_mo_draw, pk_mo, tx_mo_draw oG, rfl⟩
def tb_mo_isPlace : gk_T := [(0, .iload_n 1, 1, 0), (1, .ifCond .lt 15, 4, 16), (4, .iload_n 1, 5, 0), (5, .aload_n 0, 6, 0), (6, .getfield 122, 9, 0), (9, .if_icmp .ge 7, 12, 16), (12, .iconst 1, 13, 0), (13, .goto 4, 16, 17), (16, .iconst 0, 17, 0), (17, .ireturn, 18, 0)]
def sw_mo_isPlace : List (Nat × List (Int32 × Nat) × Nat) := []
set_option maxRecDepth 100000 in
theorem te_mo_isPlace : ∀ q ∈ tb_mo_isPlace, gk_eok (gk_M 176).2.1 q = true := by decide +kernel
set_option maxRecDepth 100000 in
theorem tx_mo_isPlace (oG : List (Nat × gk_G)) : ∀ q ∈ tb_mo_isPlace, gk_xok "DryPlacesModel" pl_mo (3, sw_mo_isPlace, oG) q := by
  have h : tb_mo_isPlace.all (fun q => gk_xokb "DryPlacesModel" pl_mo sw_mo_isPlace q) = true := by decide +kernel
  exact fun q hq => gk_xok_of (List.all_eq_true.mp h q hq)
theorem ok_mo_isPlace (oG : List (Nat × gk_G)) : gk_ok gk_M 176 tb_mo_isPlace pl_mo (3, sw_mo_isPlace, oG) := ⟨te_mo_isPlace, pk_mo, tx_mo_isPlace oG, rfl⟩
def tb_mo_isCell : gk_T := [(0, .iload_n 1, 1, 0), (1, .ifCond .lt 13, 4, 14), (4, .iload_n 1, 5, 0), (5, .bipush 64, 7, 0), (7, .if_icmp .ge 7, 10, 14), (10, .iconst 1, 11, 0), (11, .goto 4, 14, 15), (14, .iconst 0, 15, 0), (15, .ireturn, 16, 0)]
def sw_mo_isCell : List (Nat × List (Int32 × Nat) × Nat) := []
set_option maxRecDepth 100000 in
theorem te_mo_isCell : ∀ q ∈ tb_mo_isCell, gk_eok (gk_M 177).2.1 q = true := by decide +kernel
set_option maxRecDepth 100000 in
theorem tx_mo_isCell (oG : List (Nat × gk_G)) : ∀ q ∈ tb_mo_isCell, gk_xok "DryPlacesModel" pl_mo (3, sw_mo_isCell, oG) q := by
  have h : tb_mo_isCell.all (fun q => gk_xokb "DryPlacesModel" pl_mo sw_mo_isCell q) = true := by decide +kernel
  exact fun q hq => gk_xok_of (List.all_eq_true.mp h q hq)
theorem ok_mo_isCell (oG : List (Nat × gk_G)) : gk_ok gk_M 177 tb_mo_isCell pl_mo (3, sw_mo_isCell, oG) := ⟨te_mo_isCell, pk_mo, tx_mo_isCell oG, rfl⟩
def tb_mo_rowAt : gk_T := [(0, .bipush 51, 2, 0), (2, .bipush 8, 4, 0), (4, .iload_n 1, 5, 0), (5, .imul, 6, 0), (6, .iadd, 7, 0), (7, .iload_n 2, 8, 0), (8, .iadd, 9, 0), (9, .ireturn, 10, 0)]
def sw_mo_rowAt : List (Nat × List (Int32 × Nat) × Nat) := []
set_option maxRecDepth 100000 in
theorem te_mo_rowAt : ∀ q ∈ tb_mo_rowAt, gk_eok (gk_M 178).2.1 q = true := by decide +kernel
set_option maxRecDepth 100000 in
theorem tx_mo_rowAt (oG : List (Nat × gk_G)) : ∀ q ∈ tb_mo_rowAt, gk_xok "DryPlacesModel" pl_mo (1, sw_mo_rowAt, oG) q := by
  have h : tb_mo_rowAt.all (fun q => gk_xokb "DryPlacesModel" pl_mo sw_mo_rowAt q) = true := by decide +kernel
  exact fun q hq => gk_xok_of (List.all_eq_true.mp h q hq)
theorem ok_mo_rowAt (oG : List (Nat × gk_G)) : gk_ok gk_M 178 tb_mo_rowAt pl_mo (1, sw_mo_rowAt, oG) := ⟨te_mo_rowAt, pk_mo, tx_mo_rowAt oG, rfl⟩
def tb_mo_isDry : gk_T := [(0, .aload_n 0, 1, 0), (1, .iload_n 2, 2, 0), (2, .iconst 0, 3, 0), (3, .bipush 7, 5, 0), (5, .invokevirtual 125, 8, 0), (8, .ifCond .eq 37, 11, 45), (11, .aload_n 0, 12, 0), (12, .iload_n 3, 13, 0), (13, .iconst 0, 14, 0), (14, .bipush 7, 16, 0), (16, .invokevirtual 125, 19, 0), (19, .ifCond .eq 26, 22, 45), (22, .aload_n 0, 23, 0), (23, .aload_n 0, 24, 0), (24, .getfield 7, 27, 0), (27, .aload_n 0, 28, 0), (28, .iload_n 1, 29, 0), (29, .iload_n 2, 30, 0), (30, .invokevirtual 129, 33, 0), (33, .iaload, 34, 0), (34, .iload_n 3, 35, 0), (35, .invokevirtual 133, 38, 0), (38, .ifCond .eq 7, 41, 45), (41, .iconst 1, 42, 0), (42, .goto 4, 45, 46), (45, .iconst 0, 46, 0), (46, .ireturn, 47, 0)]
def sw_mo_isDry : List (Nat × List (Int32 × Nat) × Nat) := []
set_option maxRecDepth 100000 in
theorem te_mo_isDry : ∀ q ∈ tb_mo_isDry, gk_eok (gk_M 179).2.1 q = true := by decide +kernel
set_option maxRecDepth 100000 in
theorem tx_mo_isDry (oG : List (Nat × gk_G)) : ∀ q ∈ tb_mo_isDry, gk_xok "DryPlacesModel" pl_mo (3, sw_mo_isDry, oG) q := by
  have h : tb_mo_isDry.all (fun q => gk_xokb "DryPlacesModel" pl_mo sw_mo_isDry q) = true := by decide +kernel
  exact fun q hq => gk_xok_of (List.all_eq_true.mp h q hq)
theorem ok_mo_isDry (oG : List (Nat × gk_G)) : gk_ok gk_M 179 tb_mo_isDry pl_mo (3, sw_mo_isDry, oG) := ⟨te_mo_isDry, pk_mo, tx_mo_isDry oG, rfl⟩
def tb_mo_isDryCell : gk_T := [(0, .aload_n 0, 1, 0), (1, .aload_n 0, 2, 0), (2, .getfield 7, 5, 0), (5, .aload_n 0, 6, 0), (6, .iload_n 1, 7, 0), (7, .iload_n 2, 8, 0), (8, .bipush 8, 10, 0), (10, .idiv, 11, 0), (11, .invokevirtual 129, 14, 0), (14, .iaload, 15, 0), (15, .iload_n 2, 16, 0), (16, .bipush 8, 18, 0), (18, .irem, 19, 0), (19, .invokevirtual 133, 22, 0), (22, .ireturn, 23, 0)]
def sw_mo_isDryCell : List (Nat × List (Int32 × Nat) × Nat) := []
set_option maxRecDepth 100000 in
theorem te_mo_isDryCell : ∀ q ∈ tb_mo_isDryCell, gk_eok (gk_M 180).2.1 q = true := by decide +kernel
set_option maxRecDepth 100000 in
theorem tx_mo_isDryCell (oG : List (Nat × gk_G)) : ∀ q ∈ tb_mo_isDryCell, gk_xok "DryPlacesModel" pl_mo (3, sw_mo_isDryCell, oG) q := by
  have h : tb_mo_isDryCell.all (fun q => gk_xokb "DryPlacesModel" pl_mo sw_mo_isDryCell q) = true := by decide +kernel
  exact fun q hq => gk_xok_of (List.all_eq_true.mp h q hq)
theorem ok_mo_isDryCell (oG : List (Nat × gk_G)) : gk_ok gk_M 180 tb_mo_isDryCell pl_mo (3, sw_mo_isDryCell, oG) := ⟨te_mo_isDryCell, pk_mo, tx_mo_isDryCell oG, rfl⟩
def tb_mo_wetBeside : gk_T := [(0, .iload_n 2, 1, 0), (1, .bipush 8, 3, 0), (3, .idiv, 4, 0), (4, .istore_n 3, 5, 0), (5, .iload_n 2, 6, 0), (6, .bipush 8, 8, 0), (8, .irem, 9, 0), (9, .istore 4, 11, 0), (11, .iconst 4, 12, 0), (12, .aload_n 0, 13, 0), (13, .iload_n 1, 14, 0), (14, .iload_n 3, 15, 0), (15, .iconst 1, 16, 0), (16, .isub, 17, 0), (17, .iload 4, 19, 0), (19, .invokevirtual 137, 22, 0), (22, .ifCond .eq 7, 25, 29), (25, .iconst 1, 26, 0), (26, .goto 4, 29, 30), (29, .iconst 0, 30, 0), (30, .isub, 31, 0), (31, .aload_n 0, 32, 0), (32, .iload_n 1, 33, 0), (33, .iload_n 3, 34, 0), (34, .iconst 1, 35, 0), (35, .iadd, 36, 0), (36, .iload 4, 38, 0), (38, .invokevirtual 137, 41, 0), (41, .ifCond .eq 7, 44, 48), (44, .iconst 1, 45, 0), (45, .goto 4, 48, 49), (48, .iconst 0, 49, 0), (49, .isub, 50, 0), (50, .aload_n 0, 51, 0), (51, .iload_n 1, 52, 0), (52, .iload_n 3, 53, 0), (53, .iload 4, 55, 0), (55, .iconst 1, 56, 0), (56, .isub, 57, 0), (57, .invokevirtual 137, 60, 0), (60, .ifCond .eq 7, 63, 67), (63, .iconst 1, 64, 0), (64, .goto 4, 67, 68), (67, .iconst 0, 68, 0), (68, .isub, 69, 0), (69, .aload_n 0, 70, 0), (70, .iload_n 1, 71, 0), (71, .iload_n 3, 72, 0), (72, .iload 4, 74, 0), (74, .iconst 1, 75, 0), (75, .iadd, 76, 0), (76, .invokevirtual 137, 79, 0), (79, .ifCond .eq 7, 82, 86), (82, .iconst 1, 83, 0), (83, .goto 4, 86, 87), (86, .iconst 0, 87, 0), (87, .isub, 88, 0), (88, .ireturn, 89, 0)]
def sw_mo_wetBeside : List (Nat × List (Int32 × Nat) × Nat) := []
set_option maxRecDepth 100000 in
theorem te_mo_wetBeside : ∀ q ∈ tb_mo_wetBeside, gk_eok (gk_M 181).2.1 q = true := by decide +kernel
set_option maxRecDepth 100000 in
theorem tx_mo_wetBeside (oG : List (Nat × gk_G)) : ∀ q ∈ tb_mo_wetBeside, gk_xok "DryPlacesModel" pl_mo (1, sw_mo_wetBeside, oG) q := by
  have h : tb_mo_wetBeside.all (fun q => gk_xokb "DryPlacesModel" pl_mo sw_mo_wetBeside q) = true := by decide +kernel
  exact fun q hq => gk_xok_of (List.all_eq_true.mp h q hq)
theorem ok_mo_wetBeside (oG : List (Nat × gk_G)) : gk_ok gk_M 181 tb_mo_wetBeside pl_mo (1, sw_mo_wetBeside, oG) := ⟨te_mo_wetBeside, pk_mo, tx_mo_wetBeside oG, rfl⟩
def tb_mo_dryOf : gk_T := [(0, .iconst 0, 1, 0), (1, .istore_n 2, 2, 0), (2, .iconst 0, 3, 0), (3, .istore_n 3, 4, 0), (4, .iload_n 3, 5, 0), (5, .bipush 8, 7, 0), (7, .if_icmp .ge 27, 10, 34), (10, .iload_n 2, 11, 0), (11, .aload_n 0, 12, 0), (12, .aload_n 0, 13, 0), (13, .getfield 7, 16, 0), (16, .aload_n 0, 17, 0), (17, .iload_n 1, 18, 0), (18, .iload_n 3, 19, 0), (19, .invokevirtual 129, 22, 0), (22, .iaload, 23, 0), (23, .invokevirtual 140, 26, 0), (26, .iadd, 27, 0), (27, .istore_n 2, 28, 0), (28, .iinc 3 1, 31, 0), (31, .goto (-27), 34, 4), (34, .iload_n 2, 35, 0), (35, .ireturn, 36, 0)]
def sw_mo_dryOf : List (Nat × List (Int32 × Nat) × Nat) := []
set_option maxRecDepth 100000 in
theorem te_mo_dryOf : ∀ q ∈ tb_mo_dryOf, gk_eok (gk_M 182).2.1 q = true := by decide +kernel
set_option maxRecDepth 100000 in
theorem tx_mo_dryOf (oG : List (Nat × gk_G)) : ∀ q ∈ tb_mo_dryOf, gk_xok "DryPlacesModel" pl_mo (1, sw_mo_dryOf, oG) q := by
  have h : tb_mo_dryOf.all (fun q => gk_xokb "DryPlacesModel" pl_mo sw_mo_dryOf q) = true := by decide +kernel
  exact fun q hq => gk_xok_of (List.all_eq_true.mp h q hq)
theorem ok_mo_dryOf (oG : List (Nat × gk_G)) : gk_ok gk_M 182 tb_mo_dryOf pl_mo (1, sw_mo_dryOf, oG) := ⟨te_mo_dryOf, pk_mo, tx_mo_dryOf oG, rfl⟩
def tb_mo_edgesOf : gk_T := [(0, .iconst 0, 1, 0), (1, .istore_n 2, 2, 0), (2, .iconst 0, 3, 0), (3, .istore_n 3, 4, 0), (4, .iload_n 3, 5, 0), (5, .bipush 64, 7, 0), (7, .if_icmp .ge 27, 10, 34), (10, .aload_n 0, 11, 0), (11, .iload_n 1, 12, 0), (12, .iload_n 3, 13, 0), (13, .invokevirtual 144, 16, 0), (16, .ifCond .eq 12, 19, 28), (19, .iload_n 2, 20, 0), (20, .aload_n 0, 21, 0), (21, .iload_n 1, 22, 0), (22, .iload_n 3, 23, 0), (23, .invokevirtual 147, 26, 0), (26, .iadd, 27, 0), (27, .istore_n 2, 28, 0), (28, .iinc 3 1, 31, 0), (31, .goto (-27), 34, 4), (34, .iload_n 2, 35, 0), (35, .ireturn, 36, 0)]
def sw_mo_edgesOf : List (Nat × List (Int32 × Nat) × Nat) := []
set_option maxRecDepth 100000 in
theorem te_mo_edgesOf : ∀ q ∈ tb_mo_edgesOf, gk_eok (gk_M 183).2.1 q = true := by decide +kernel
set_option maxRecDepth 100000 in
theorem tx_mo_edgesOf (oG : List (Nat × gk_G)) : ∀ q ∈ tb_mo_edgesOf, gk_xok "DryPlacesModel" pl_mo (1, sw_mo_edgesOf, oG) q := by
  have h : tb_mo_edgesOf.all (fun q => gk_xokb "DryPlacesModel" pl_mo sw_mo_edgesOf q) = true := by decide +kernel
  exact fun q hq => gk_xok_of (List.all_eq_true.mp h q hq)
theorem ok_mo_edgesOf (oG : List (Nat × gk_G)) : gk_ok gk_M 183 tb_mo_edgesOf pl_mo (1, sw_mo_edgesOf, oG) := ⟨te_mo_edgesOf, pk_mo, tx_mo_edgesOf oG, rfl⟩
def tb_mo_place : gk_T := [(0, .aload_n 0, 1, 0), (1, .iconst 0, 2, 0), (2, .putfield 110, 5, 0), (5, .aload_n 0, 6, 0), (6, .iload_n 1, 7, 0), (7, .iconst 0, 8, 0), (8, .bipush 99, 10, 0), (10, .invokevirtual 125, 13, 0), (13, .ifCond .eq 12, 16, 25), (16, .aload_n 0, 17, 0), (17, .getfield 122, 20, 0), (20, .bipush 10, 22, 0), (22, .if_icmp .ne 5, 25, 27), (25, .iconst (-1), 26, 0), (26, .ireturn, 27, 0), (27, .aload_n 0, 28, 0), (28, .getfield 19, 31, 0), (31, .aload_n 0, 32, 0), (32, .getfield 122, 35, 0), (35, .iload_n 1, 36, 0), (36, .iastore, 37, 0), (37, .aload_n 0, 38, 0), (38, .getfield 7, 41, 0), (41, .bipush 11, 43, 0), (43, .aload_n 0, 44, 0), (44, .getfield 122, 47, 0), (47, .iadd, 48, 0), (48, .iconst 0, 49, 0), (49, .iastore, 50, 0), (50, .aload_n 0, 51, 0), (51, .getfield 7, 54, 0), (54, .bipush 21, 56, 0), (56, .aload_n 0, 57, 0), (57, .getfield 122, 60, 0), (60, .iadd, 61, 0), (61, .iconst 0, 62, 0), (62, .iastore, 63, 0), (63, .aload_n 0, 64, 0), (64, .getfield 7, 67, 0), (67, .bipush 31, 69, 0), (69, .aload_n 0, 70, 0), (70, .getfield 122, 73, 0), (73, .iadd, 74, 0), (74, .iconst 0, 75, 0), (75, .iastore, 76, 0), (76, .aload_n 0, 77, 0), (77, .getfield 7, 80, 0), (80, .bipush 41, 82, 0), (82, .aload_n 0, 83, 0), (83, .getfield 122, 86, 0), (86, .iadd, 87, 0), (87, .iconst 0, 88, 0), (88, .iastore, 89, 0), (89, .iconst 0, 90, 0), (90, .istore_n 2, 91, 0), (91, .iload_n 2, 92, 0), (92, .bipush 8, 94, 0), (94, .if_icmp .ge 24, 97, 118), (97, .aload_n 0, 98, 0), (98, .getfield 7, 101, 0), (101, .aload_n 0, 102, 0), (102, .aload_n 0, 103, 0), (103, .getfield 122, 106, 0), (106, .iload_n 2, 107, 0), (107, .invokevirtual 129, 110, 0), (110, .iconst 0, 111, 0), (111, .iastore, 112, 0), (112, .iinc 2 1, 115, 0), (115, .goto (-24), 118, 91), (118, .aload_n 0, 119, 0), (119, .aload_n 0, 120, 0), (120, .getfield 122, 123, 0), (123, .iconst 1, 124, 0), (124, .iadd, 125, 0), (125, .putfield 122, 128, 0), (128, .aload_n 0, 129, 0), (129, .iconst 0, 130, 0), (130, .putfield 113, 133, 0), (133, .aload_n 0, 134, 0), (134, .getfield 122, 137, 0), (137, .iconst 1, 138, 0), (138, .isub, 139, 0), (139, .ireturn, 140, 0)]
def sw_mo_place : List (Nat × List (Int32 × Nat) × Nat) := []
set_option maxRecDepth 100000 in
theorem te_mo_place : ∀ q ∈ tb_mo_place, gk_eok (gk_M 184).2.1 q = true := by decide +kernel
set_option maxRecDepth 100000 in
theorem tx_mo_place (oG : List (Nat × gk_G)) : ∀ q ∈ tb_mo_place, gk_xok "DryPlacesModel" pl_mo (1, sw_mo_place, oG) q := by
  have h : tb_mo_place.all (fun q => gk_xokb "DryPlacesModel" pl_mo sw_mo_place q) = true := by decide +kernel
  exact fun q hq => gk_xok_of (List.all_eq_true.mp h q hq)
theorem ok_mo_place (oG : List (Nat × gk_G)) : gk_ok gk_M 184 tb_mo_place pl_mo (1, sw_mo_place, oG) := ⟨te_mo_place, pk_mo, tx_mo_place oG, rfl⟩
def tb_mo_row : gk_T := [(0, .aload_n 0, 1, 0), (1, .iconst 0, 2, 0), (2, .putfield 110, 5, 0), (5, .aload_n 0, 6, 0), (6, .iload_n 1, 7, 0), (7, .invokevirtual 150, 10, 0), (10, .ifCond .eq 26, 13, 36), (13, .aload_n 0, 14, 0), (14, .iload_n 2, 15, 0), (15, .iconst 0, 16, 0), (16, .bipush 7, 18, 0), (18, .invokevirtual 125, 21, 0), (21, .ifCond .eq 15, 24, 36), (24, .aload_n 0, 25, 0), (25, .iload_n 3, 26, 0), (26, .iconst 0, 27, 0), (27, .sipush 255, 30, 0), (30, .invokevirtual 125, 33, 0), (33, .ifCond .ne 5, 36, 38), (36, .iconst 0, 37, 0), (37, .ireturn, 38, 0), (38, .aload_n 0, 39, 0), (39, .getfield 7, 42, 0), (42, .aload_n 0, 43, 0), (43, .iload_n 1, 44, 0), (44, .iload_n 2, 45, 0), (45, .invokevirtual 129, 48, 0), (48, .iload_n 3, 49, 0), (49, .iastore, 50, 0), (50, .aload_n 0, 51, 0), (51, .iconst 0, 52, 0), (52, .putfield 113, 55, 0), (55, .iconst 1, 56, 0), (56, .ireturn, 57, 0)]
def sw_mo_row : List (Nat × List (Int32 × Nat) × Nat) := []
set_option maxRecDepth 100000 in
theorem te_mo_row : ∀ q ∈ tb_mo_row, gk_eok (gk_M 185).2.1 q = true := by decide +kernel
set_option maxRecDepth 100000 in
theorem tx_mo_row (oG : List (Nat × gk_G)) : ∀ q ∈ tb_mo_row, gk_xok "DryPlacesModel" pl_mo (3, sw_mo_row, oG) q := by
  have h : tb_mo_row.all (fun q => gk_xokb "DryPlacesModel" pl_mo sw_mo_row q) = true := by decide +kernel
  exact fun q hq => gk_xok_of (List.all_eq_true.mp h q hq)
theorem ok_mo_row (oG : List (Nat × gk_G)) : gk_ok gk_M 185 tb_mo_row pl_mo (3, sw_mo_row, oG) := ⟨te_mo_row, pk_mo, tx_mo_row oG, rfl⟩
def tb_mo_purse : gk_T := [(0, .aload_n 0, 1, 0), (1, .iconst 0, 2, 0), (2, .putfield 110, 5, 0), (5, .aload_n 0, 6, 0), (6, .iload_n 1, 7, 0), (7, .iconst 0, 8, 0), (8, .ldc 154, 10, 0), (10, .invokevirtual 125, 13, 0), (13, .ifCond .ne 5, 16, 18), (16, .iconst 0, 17, 0), (17, .ireturn, 18, 0), (18, .aload_n 0, 19, 0), (19, .getfield 7, 22, 0), (22, .iconst 3, 23, 0), (23, .iload_n 1, 24, 0), (24, .iastore, 25, 0), (25, .aload_n 0, 26, 0), (26, .iconst 0, 27, 0), (27, .putfield 113, 30, 0), (30, .iconst 1, 31, 0), (31, .ireturn, 32, 0)]
def sw_mo_purse : List (Nat × List (Int32 × Nat) × Nat) := []
set_option maxRecDepth 100000 in
theorem te_mo_purse : ∀ q ∈ tb_mo_purse, gk_eok (gk_M 186).2.1 q = true := by decide +kernel
set_option maxRecDepth 100000 in
theorem tx_mo_purse (oG : List (Nat × gk_G)) : ∀ q ∈ tb_mo_purse, gk_xok "DryPlacesModel" pl_mo (3, sw_mo_purse, oG) q := by
  have h : tb_mo_purse.all (fun q => gk_xokb "DryPlacesModel" pl_mo sw_mo_purse q) = true := by decide +kernel
  exact fun q hq => gk_xok_of (List.all_eq_true.mp h q hq)
theorem ok_mo_purse (oG : List (Nat × gk_G)) : gk_ok gk_M 186 tb_mo_purse pl_mo (3, sw_mo_purse, oG) := ⟨te_mo_purse, pk_mo, tx_mo_purse oG, rfl⟩
def tb_mo_types : gk_T := [(0, .bipush 24, 2, 0), (2, .istore_n 2, 3, 0), (3, .iload_n 2, 4, 0), (4, .ifCond .lt 35, 7, 39), (7, .aload_n 0, 8, 0), (8, .getfield 25, 11, 0), (11, .aload_n 0, 12, 0), (12, .getfield 155, 15, 0), (15, .iload_n 1, 16, 0), (16, .iload_n 2, 17, 0), (17, .ishr, 18, 0), (18, .sipush 255, 21, 0), (21, .iand, 22, 0), (22, .iastore, 23, 0), (23, .aload_n 0, 24, 0), (24, .aload_n 0, 25, 0), (25, .getfield 155, 28, 0), (28, .iconst 1, 29, 0), (29, .iadd, 30, 0), (30, .putfield 155, 33, 0), (33, .iinc 2 (-8), 36, 0), (36, .goto (-33), 39, 3), (39, .return_, 40, 0)]
def sw_mo_types : List (Nat × List (Int32 × Nat) × Nat) := []
set_option maxRecDepth 100000 in
theorem te_mo_types : ∀ q ∈ tb_mo_types, gk_eok (gk_M 187).2.1 q = true := by decide +kernel
set_option maxRecDepth 100000 in
theorem tx_mo_types (oG : List (Nat × gk_G)) : ∀ q ∈ tb_mo_types, gk_xok "DryPlacesModel" pl_mo (0, sw_mo_types, oG) q := by
  have h : tb_mo_types.all (fun q => gk_xokb "DryPlacesModel" pl_mo sw_mo_types q) = true := by decide +kernel
  exact fun q hq => gk_xok_of (List.all_eq_true.mp h q hq)
theorem ok_mo_types (oG : List (Nat × gk_G)) : gk_ok gk_M 187 tb_mo_types pl_mo (0, sw_mo_types, oG) := ⟨te_mo_types, pk_mo, tx_mo_types oG, rfl⟩
def tb_mo_feed : gk_T := [(0, .aload_n 0, 1, 0), (1, .iconst 0, 2, 0), (2, .putfield 110, 5, 0), (5, .aload_n 0, 6, 0), (6, .getfield 155, 9, 0), (9, .sipush 380, 12, 0), (12, .if_icmp .le 5, 15, 17), (15, .iconst (-1), 16, 0), (16, .ireturn, 17, 0), (17, .aload_n 0, 18, 0), (18, .iload_n 1, 19, 0), (19, .invokevirtual 158, 22, 0), (22, .aload_n 0, 23, 0), (23, .iload_n 2, 24, 0), (24, .invokevirtual 158, 27, 0), (27, .aload_n 0, 28, 0), (28, .iload_n 3, 29, 0), (29, .invokevirtual 158, 32, 0), (32, .aload_n 0, 33, 0), (33, .iload 4, 35, 0), (35, .invokevirtual 158, 38, 0), (38, .aload_n 0, 39, 0), (39, .iload 5, 41, 0), (41, .invokevirtual 158, 44, 0), (44, .aload_n 0, 45, 0), (45, .getfield 155, 48, 0), (48, .ireturn, 49, 0)]
def sw_mo_feed : List (Nat × List (Int32 × Nat) × Nat) := []
set_option maxRecDepth 100000 in
theorem te_mo_feed : ∀ q ∈ tb_mo_feed, gk_eok (gk_M 188).2.1 q = true := by decide +kernel
set_option maxRecDepth 100000 in
theorem tx_mo_feed (oG : List (Nat × gk_G)) : ∀ q ∈ tb_mo_feed, gk_xok "DryPlacesModel" pl_mo (1, sw_mo_feed, oG) q := by
  have h : tb_mo_feed.all (fun q => gk_xokb "DryPlacesModel" pl_mo sw_mo_feed q) = true := by decide +kernel
  exact fun q hq => gk_xok_of (List.all_eq_true.mp h q hq)
theorem ok_mo_feed (oG : List (Nat × gk_G)) : gk_ok gk_M 188 tb_mo_feed pl_mo (1, sw_mo_feed, oG) := ⟨te_mo_feed, pk_mo, tx_mo_feed oG, rfl⟩
def tb_mo_end : gk_T := [(0, .aload_n 0, 1, 0), (1, .iconst 0, 2, 0), (2, .putfield 110, 5, 0), (5, .aload_n 0, 6, 0), (6, .iload_n 1, 7, 0), (7, .iconst 0, 8, 0), (8, .aload_n 0, 9, 0), (9, .getfield 155, 12, 0), (12, .invokevirtual 125, 15, 0), (15, .ifCond .ne 5, 18, 20), (18, .iconst 0, 19, 0), (19, .ireturn, 20, 0), (20, .aload_n 0, 21, 0), (21, .iload_n 1, 22, 0), (22, .putfield 155, 25, 0), (25, .iconst 1, 26, 0), (26, .ireturn, 27, 0)]
def sw_mo_end : List (Nat × List (Int32 × Nat) × Nat) := []
set_option maxRecDepth 100000 in
theorem te_mo_end : ∀ q ∈ tb_mo_end, gk_eok (gk_M 189).2.1 q = true := by decide +kernel
set_option maxRecDepth 100000 in
theorem tx_mo_end (oG : List (Nat × gk_G)) : ∀ q ∈ tb_mo_end, gk_xok "DryPlacesModel" pl_mo (3, sw_mo_end, oG) q := by
  have h : tb_mo_end.all (fun q => gk_xokb "DryPlacesModel" pl_mo sw_mo_end q) = true := by decide +kernel
  exact fun q hq => gk_xok_of (List.all_eq_true.mp h q hq)
theorem ok_mo_end (oG : List (Nat × gk_G)) : gk_ok gk_M 189 tb_mo_end pl_mo (3, sw_mo_end, oG) := ⟨te_mo_end, pk_mo, tx_mo_end oG, rfl⟩
def tb_mo_raw : gk_T := [(0, .iload_n 1, 1, 0), (1, .aload_n 0, 2, 0), (2, .getfield 155, 5, 0), (5, .if_icmp .ge 12, 8, 17), (8, .aload_n 0, 9, 0), (9, .getfield 25, 12, 0), (12, .iload_n 1, 13, 0), (13, .iaload, 14, 0), (14, .goto 4, 17, 18), (17, .iconst (-1), 18, 0), (18, .ireturn, 19, 0)]
def sw_mo_raw : List (Nat × List (Int32 × Nat) × Nat) := []
set_option maxRecDepth 100000 in
theorem te_mo_raw : ∀ q ∈ tb_mo_raw, gk_eok (gk_M 190).2.1 q = true := by decide +kernel
set_option maxRecDepth 100000 in
theorem tx_mo_raw (oG : List (Nat × gk_G)) : ∀ q ∈ tb_mo_raw, gk_xok "DryPlacesModel" pl_mo (1, sw_mo_raw, oG) q := by
  have h : tb_mo_raw.all (fun q => gk_xokb "DryPlacesModel" pl_mo sw_mo_raw q) = true := by decide +kernel
  exact fun q hq => gk_xok_of (List.all_eq_true.mp h q hq)
theorem ok_mo_raw (oG : List (Nat × gk_G)) : gk_ok gk_M 190 tb_mo_raw pl_mo (1, sw_mo_raw, oG) := ⟨te_mo_raw, pk_mo, tx_mo_raw oG, rfl⟩
def tb_mo_isLetter : gk_T := [(0, .aload_n 0, 1, 0), (1, .iload_n 1, 2, 0), (2, .bipush 97, 4, 0), (4, .bipush 122, 6, 0), (6, .invokevirtual 125, 9, 0), (9, .ifCond .ne 15, 12, 24), (12, .aload_n 0, 13, 0), (13, .iload_n 1, 14, 0), (14, .bipush 65, 16, 0), (16, .bipush 90, 18, 0), (18, .invokevirtual 125, 21, 0), (21, .ifCond .eq 7, 24, 28), (24, .iconst 1, 25, 0), (25, .goto 4, 28, 29), (28, .iconst 0, 29, 0), (29, .ireturn, 30, 0)]
def sw_mo_isLetter : List (Nat × List (Int32 × Nat) × Nat) := []
set_option maxRecDepth 100000 in
theorem te_mo_isLetter : ∀ q ∈ tb_mo_isLetter, gk_eok (gk_M 191).2.1 q = true := by decide +kernel
set_option maxRecDepth 100000 in
theorem tx_mo_isLetter (oG : List (Nat × gk_G)) : ∀ q ∈ tb_mo_isLetter, gk_xok "DryPlacesModel" pl_mo (3, sw_mo_isLetter, oG) q := by
  have h : tb_mo_isLetter.all (fun q => gk_xokb "DryPlacesModel" pl_mo sw_mo_isLetter q) = true := by decide +kernel
  exact fun q hq => gk_xok_of (List.all_eq_true.mp h q hq)
theorem ok_mo_isLetter (oG : List (Nat × gk_G)) : gk_ok gk_M 191 tb_mo_isLetter pl_mo (3, sw_mo_isLetter, oG) := ⟨te_mo_isLetter, pk_mo, tx_mo_isLetter oG, rfl⟩
def tb_mo_isDigit : gk_T := [(0, .aload_n 0, 1, 0), (1, .iload_n 1, 2, 0), (2, .bipush 48, 4, 0), (4, .bipush 57, 6, 0), (6, .invokevirtual 125, 9, 0), (9, .ireturn, 10, 0)]
def sw_mo_isDigit : List (Nat × List (Int32 × Nat) × Nat) := []
set_option maxRecDepth 100000 in
theorem te_mo_isDigit : ∀ q ∈ tb_mo_isDigit, gk_eok (gk_M 192).2.1 q = true := by decide +kernel
set_option maxRecDepth 100000 in
theorem tx_mo_isDigit (oG : List (Nat × gk_G)) : ∀ q ∈ tb_mo_isDigit, gk_xok "DryPlacesModel" pl_mo (3, sw_mo_isDigit, oG) q := by
  have h : tb_mo_isDigit.all (fun q => gk_xokb "DryPlacesModel" pl_mo sw_mo_isDigit q) = true := by decide +kernel
  exact fun q hq => gk_xok_of (List.all_eq_true.mp h q hq)
theorem ok_mo_isDigit (oG : List (Nat × gk_G)) : gk_ok gk_M 192 tb_mo_isDigit pl_mo (3, sw_mo_isDigit, oG) := ⟨te_mo_isDigit, pk_mo, tx_mo_isDigit oG, rfl⟩
def tb_mo_isMarkSign : gk_T := [(0, .iload_n 1, 1, 0), (1, .bipush 59, 3, 0), (3, .if_icmp .eq 57, 6, 60), (6, .iload_n 1, 7, 0), (7, .bipush 43, 9, 0), (9, .if_icmp .eq 51, 12, 60), (12, .iload_n 1, 13, 0), (13, .bipush 45, 15, 0), (15, .if_icmp .eq 45, 18, 60), (18, .iload_n 1, 19, 0), (19, .bipush 42, 21, 0), (21, .if_icmp .eq 39, 24, 60), (24, .iload_n 1, 25, 0), (25, .bipush 47, 27, 0), (27, .if_icmp .eq 33, 30, 60), (30, .iload_n 1, 31, 0), (31, .bipush 40, 33, 0), (33, .if_icmp .eq 27, 36, 60), (36, .iload_n 1, 37, 0), (37, .bipush 41, 39, 0), (39, .if_icmp .eq 21, 42, 60), (42, .iload_n 1, 43, 0), (43, .bipush 60, 45, 0), (45, .if_icmp .eq 15, 48, 60), (48, .iload_n 1, 49, 0), (49, .bipush 61, 51, 0), (51, .if_icmp .eq 9, 54, 60), (54, .iload_n 1, 55, 0), (55, .bipush 62, 57, 0), (57, .if_icmp .ne 7, 60, 64), (60, .iconst 1, 61, 0), (61, .goto 4, 64, 65), (64, .iconst 0, 65, 0), (65, .ireturn, 66, 0)]
def sw_mo_isMarkSign : List (Nat × List (Int32 × Nat) × Nat) := []
set_option maxRecDepth 100000 in
theorem te_mo_isMarkSign : ∀ q ∈ tb_mo_isMarkSign, gk_eok (gk_M 193).2.1 q = true := by decide +kernel
set_option maxRecDepth 100000 in
theorem tx_mo_isMarkSign (oG : List (Nat × gk_G)) : ∀ q ∈ tb_mo_isMarkSign, gk_xok "DryPlacesModel" pl_mo (3, sw_mo_isMarkSign, oG) q := by
  have h : tb_mo_isMarkSign.all (fun q => gk_xokb "DryPlacesModel" pl_mo sw_mo_isMarkSign q) = true := by decide +kernel
  exact fun q hq => gk_xok_of (List.all_eq_true.mp h q hq)
theorem ok_mo_isMarkSign (oG : List (Nat × gk_G)) : gk_ok gk_M 193 tb_mo_isMarkSign pl_mo (3, sw_mo_isMarkSign, oG) := ⟨te_mo_isMarkSign, pk_mo, tx_mo_isMarkSign oG, rfl⟩
def tb_mo_wordAt : gk_T := [(0, .iconst (-1), 1, 0), (1, .istore_n 3, 2, 0), (2, .iconst 0, 3, 0), (3, .istore 4, 5, 0), (5, .iload 4, 7, 0), (7, .bipush 119, 9, 0), (9, .if_icmp .ge 108, 12, 117), (12, .iconst 0, 13, 0), (13, .istore 5, 15, 0), (15, .iload_n 3, 16, 0), (16, .iconst 1, 17, 0), (17, .iadd, 18, 0), (18, .istore_n 3, 19, 0), (19, .iload_n 1, 20, 0), (20, .iload 5, 22, 0), (22, .iadd, 23, 0), (23, .iload_n 2, 24, 0), (24, .if_icmp .ge 36, 27, 60), (27, .aload_n 0, 28, 0), (28, .getfield 28, 31, 0), (31, .iload 4, 33, 0), (33, .iconst 1, 34, 0), (34, .iadd, 35, 0), (35, .iload 5, 37, 0), (37, .iadd, 38, 0), (38, .iaload, 39, 0), (39, .aload_n 0, 40, 0), (40, .getfield 25, 43, 0), (43, .iload_n 1, 44, 0), (44, .iload 5, 46, 0), (46, .iadd, 47, 0), (47, .iaload, 48, 0), (48, .if_icmp .ne 12, 51, 60), (51, .iload 5, 53, 0), (53, .iconst 1, 54, 0), (54, .iadd, 55, 0), (55, .istore 5, 57, 0), (57, .goto (-38), 60, 19), (60, .iload_n 1, 61, 0), (61, .iload 5, 63, 0), (63, .iadd, 64, 0), (64, .iload_n 2, 65, 0), (65, .if_icmp .ne 22, 68, 87), (68, .aload_n 0, 69, 0), (69, .getfield 28, 72, 0), (72, .iload 4, 74, 0), (74, .iconst 1, 75, 0), (75, .iadd, 76, 0), (76, .iload 5, 78, 0), (78, .iadd, 79, 0), (79, .iaload, 80, 0), (80, .bipush 32, 82, 0), (82, .if_icmp .ne 5, 85, 87), (85, .iload_n 3, 86, 0), (86, .ireturn, 87, 0), (87, .iload 4, 89, 0), (89, .iconst 1, 90, 0), (90, .iadd, 91, 0), (91, .istore 4, 93, 0), (93, .aload_n 0, 94, 0), (94, .getfield 28, 97, 0), (97, .iload 4, 99, 0), (99, .iaload, 100, 0), (100, .bipush 32, 102, 0), (102, .if_icmp .eq 12, 105, 114), (105, .iload 4, 107, 0), (107, .iconst 1, 108, 0), (108, .iadd, 109, 0), (109, .istore 4, 111, 0), (111, .goto (-18), 114, 93), (114, .goto (-109), 117, 5), (117, .iconst (-1), 118, 0), (118, .ireturn, 119, 0)]
def sw_mo_wordAt : List (Nat × List (Int32 × Nat) × Nat) := []
set_option maxRecDepth 100000 in
theorem te_mo_wordAt : ∀ q ∈ tb_mo_wordAt, gk_eok (gk_M 194).2.1 q = true := by decide +kernel
set_option maxRecDepth 100000 in
theorem tx_mo_wordAt (oG : List (Nat × gk_G)) : ∀ q ∈ tb_mo_wordAt, gk_xok "DryPlacesModel" pl_mo (1, sw_mo_wordAt, oG) q := by
  have h : tb_mo_wordAt.all (fun q => gk_xokb "DryPlacesModel" pl_mo sw_mo_wordAt q) = true := by decide +kernel
  exact fun q hq => gk_xok_of (List.all_eq_true.mp h q hq)
theorem ok_mo_wordAt (oG : List (Nat × gk_G)) : gk_ok gk_M 194 tb_mo_wordAt pl_mo (1, sw_mo_wordAt, oG) := ⟨te_mo_wordAt, pk_mo, tx_mo_wordAt oG, rfl⟩
def tb_mo_reads : gk_T := [(0, .aload_n 0, 1, 0), (1, .aload_n 0, 2, 0), (2, .getfield 162, 5, 0), (5, .invokevirtual 165, 8, 0), (8, .bipush 32, 10, 0), (10, .if_icmp .eq 16, 13, 26), (13, .aload_n 0, 14, 0), (14, .aload_n 0, 15, 0), (15, .getfield 162, 18, 0), (18, .invokevirtual 165, 21, 0), (21, .bipush 10, 23, 0), (23, .if_icmp .ne 16, 26, 39), (26, .aload_n 0, 27, 0), (27, .aload_n 0, 28, 0), (28, .getfield 162, 31, 0), (31, .iconst 1, 32, 0), (32, .iadd, 33, 0), (33, .putfield 162, 36, 0), (36, .goto (-36), 39, 0), (39, .aload_n 0, 40, 0), (40, .aload_n 0, 41, 0), (41, .getfield 162, 44, 0), (44, .putfield 168, 47, 0), (47, .aload_n 0, 48, 0), (48, .iconst 1, 49, 0), (49, .putfield 171, 52, 0), (52, .aload_n 0, 53, 0), (53, .aload_n 0, 54, 0), (54, .getfield 162, 57, 0), (57, .invokevirtual 165, 60, 0), (60, .istore_n 1, 61, 0), (61, .iload_n 1, 62, 0), (62, .iconst (-1), 63, 0), (63, .if_icmp .ne 9, 66, 72), (66, .aload_n 0, 67, 0), (67, .iconst 0, 68, 0), (68, .putfield 171, 71, 0), (71, .return_, 72, 0), (72, .aload_n 0, 73, 0), (73, .aload_n 0, 74, 0), (74, .getfield 162, 77, 0), (77, .iconst 1, 78, 0), (78, .iadd, 79, 0), (79, .putfield 162, 82, 0), (82, .aload_n 0, 83, 0), (83, .iload_n 1, 84, 0), (84, .putfield 174, 87, 0), (87, .aload_n 0, 88, 0), (88, .iload_n 1, 89, 0), (89, .invokevirtual 177, 92, 0), (92, .ifCond .eq 63, 95, 155), (95, .aload_n 0, 96, 0), (96, .aload_n 0, 97, 0), (97, .aload_n 0, 98, 0), (98, .getfield 162, 101, 0), (101, .invokevirtual 165, 104, 0), (104, .invokevirtual 177, 107, 0), (107, .ifCond .eq 16, 110, 123), (110, .aload_n 0, 111, 0), (111, .aload_n 0, 112, 0), (112, .getfield 162, 115, 0), (115, .iconst 1, 116, 0), (116, .iadd, 117, 0), (117, .putfield 162, 120, 0), (120, .goto (-25), 123, 95), (123, .aload_n 0, 124, 0), (124, .aload_n 0, 125, 0), (125, .aload_n 0, 126, 0), (126, .getfield 168, 129, 0), (129, .aload_n 0, 130, 0), (130, .getfield 162, 133, 0), (133, .invokevirtual 180, 136, 0), (136, .putfield 174, 139, 0), (139, .aload_n 0, 140, 0), (140, .getfield 174, 143, 0), (143, .iconst (-1), 144, 0), (144, .if_icmp .eq 129, 147, 273), (147, .aload_n 0, 148, 0), (148, .iconst 2, 149, 0), (149, .putfield 171, 152, 0), (152, .goto 121, 155, 273), (155, .aload_n 0, 156, 0), (156, .iload_n 1, 157, 0), (157, .invokevirtual 183, 160, 0), (160, .ifCond .eq 100, 163, 260), (163, .aload_n 0, 164, 0), (164, .iload_n 1, 165, 0), (165, .bipush 48, 167, 0), (167, .isub, 168, 0), (168, .putfield 174, 171, 0), (171, .aload_n 0, 172, 0), (172, .aload_n 0, 173, 0), (173, .aload_n 0, 174, 0), (174, .getfield 162, 177, 0), (177, .invokevirtual 165, 180, 0), (180, .invokevirtual 183, 183, 0), (183, .ifCond .eq 56, 186, 239), (186, .aload_n 0, 187, 0), (187, .aload_n 0, 188, 0), (188, .getfield 174, 191, 0), (191, .sipush 10000, 194, 0), (194, .if_icmp .ge 25, 197, 219), (197, .bipush 10, 199, 0), (199, .aload_n 0, 200, 0), (200, .getfield 174, 203, 0), (203, .imul, 204, 0), (204, .aload_n 0, 205, 0), (205, .aload_n 0, 206, 0), (206, .getfield 162, 209, 0), (209, .invokevirtual 165, 212, 0), (212, .iadd, 213, 0), (213, .bipush 48, 215, 0), (215, .isub, 216, 0), (216, .goto 7, 219, 223), (219, .aload_n 0, 220, 0), (220, .getfield 174, 223, 0), (223, .putfield 174, 226, 0), (226, .aload_n 0, 227, 0), (227, .aload_n 0, 228, 0), (228, .getfield 162, 231, 0), (231, .iconst 1, 232, 0), (232, .iadd, 233, 0), (233, .putfield 162, 236, 0), (236, .goto (-65), 239, 171), (239, .aload_n 0, 240, 0), (240, .getfield 162, 243, 0), (243, .aload_n 0, 244, 0), (244, .getfield 168, 247, 0), (247, .isub, 248, 0), (248, .iconst 5, 249, 0), (249, .if_icmp .ge 24, 252, 273), (252, .aload_n 0, 253, 0), (253, .iconst 3, 254, 0), (254, .putfield 171, 257, 0), (257, .goto 16, 260, 273), (260, .aload_n 0, 261, 0), (261, .iload_n 1, 262, 0), (262, .invokevirtual 186, 265, 0), (265, .ifCond .eq 8, 268, 273), (268, .aload_n 0, 269, 0), (269, .iconst 4, 270, 0), (270, .putfield 171, 273, 0), (273, .return_, 274, 0)]
def sw_mo_reads : List (Nat × List (Int32 × Nat) × Nat) := []
set_option maxRecDepth 100000 in
theorem te_mo_reads : ∀ q ∈ tb_mo_reads, gk_eok (gk_M 195).2.1 q = true := by decide +kernel
set_option maxRecDepth 100000 in
theorem tx_mo_reads (oG : List (Nat × gk_G)) : ∀ q ∈ tb_mo_reads, gk_xok "DryPlacesModel" pl_mo (0, sw_mo_reads, oG) q := by
  have h : tb_mo_reads.all (fun q => gk_xokb "DryPlacesModel" pl_mo sw_mo_reads q) = true := by decide +kernel
  exact fun q hq => gk_xok_of (List.all_eq_true.mp h q hq)
theorem ok_mo_reads (oG : List (Nat × gk_G)) : gk_ok gk_M 195 tb_mo_reads pl_mo (0, sw_mo_reads, oG) := ⟨te_mo_reads, pk_mo, tx_mo_reads oG, rfl⟩
def tb_mo_errs : gk_T := [(0, .aload_n 0, 1, 0), (1, .iload_n 1, 2, 0), (2, .putfield 189, 5, 0), (5, .aload_n 0, 6, 0), (6, .aload_n 0, 7, 0), (7, .getfield 168, 10, 0), (10, .putfield 192, 13, 0), (13, .iconst (-1), 14, 0), (14, .ireturn, 15, 0)]
def sw_mo_errs : List (Nat × List (Int32 × Nat) × Nat) := []
set_option maxRecDepth 100000 in
theorem te_mo_errs : ∀ q ∈ tb_mo_errs, gk_eok (gk_M 196).2.1 q = true := by decide +kernel
set_option maxRecDepth 100000 in
theorem tx_mo_errs (oG : List (Nat × gk_G)) : ∀ q ∈ tb_mo_errs, gk_xok "DryPlacesModel" pl_mo (1, sw_mo_errs, oG) q := by
  have h : tb_mo_errs.all (fun q => gk_xokb "DryPlacesModel" pl_mo sw_mo_errs q) = true := by decide +kernel
  exact fun q hq => gk_xok_of (List.all_eq_true.mp h q hq)
theorem ok_mo_errs (oG : List (Nat × gk_G)) : gk_ok gk_M 196 tb_mo_errs pl_mo (1, sw_mo_errs, oG) := ⟨te_mo_errs, pk_mo, tx_mo_errs oG, rfl⟩
def tb_mo_isWord : gk_T := [(0, .aload_n 0, 1, 0), (1, .getfield 171, 4, 0), (4, .iconst 2, 5, 0), (5, .if_icmp .ne 15, 8, 20), (8, .aload_n 0, 9, 0), (9, .getfield 174, 12, 0), (12, .iload_n 1, 13, 0), (13, .if_icmp .ne 7, 16, 20), (16, .iconst 1, 17, 0), (17, .goto 4, 20, 21), (20, .iconst 0, 21, 0), (21, .ireturn, 22, 0)]
def sw_mo_isWord : List (Nat × List (Int32 × Nat) × Nat) := []
set_option maxRecDepth 100000 in
theorem te_mo_isWord : ∀ q ∈ tb_mo_isWord, gk_eok (gk_M 197).2.1 q = true := by decide +kernel
set_option maxRecDepth 100000 in
theorem tx_mo_isWord (oG : List (Nat × gk_G)) : ∀ q ∈ tb_mo_isWord, gk_xok "DryPlacesModel" pl_mo (3, sw_mo_isWord, oG) q := by
  have h : tb_mo_isWord.all (fun q => gk_xokb "DryPlacesModel" pl_mo sw_mo_isWord q) = true := by decide +kernel
  exact fun q hq => gk_xok_of (List.all_eq_true.mp h q hq)
theorem ok_mo_isWord (oG : List (Nat × gk_G)) : gk_ok gk_M 197 tb_mo_isWord pl_mo (3, sw_mo_isWord, oG) := ⟨te_mo_isWord, pk_mo, tx_mo_isWord oG, rfl⟩
def tb_mo_isSign : gk_T := [(0, .aload_n 0, 1, 0), (1, .getfield 171, 4, 0), (4, .iconst 4, 5, 0), (5, .if_icmp .ne 15, 8, 20), (8, .aload_n 0, 9, 0), (9, .getfield 174, 12, 0), (12, .iload_n 1, 13, 0), (13, .if_icmp .ne 7, 16, 20), (16, .iconst 1, 17, 0), (17, .goto 4, 20, 21), (20, .iconst 0, 21, 0), (21, .ireturn, 22, 0)]
def sw_mo_isSign : List (Nat × List (Int32 × Nat) × Nat) := []
set_option maxRecDepth 100000 in
theorem te_mo_isSign : ∀ q ∈ tb_mo_isSign, gk_eok (gk_M 198).2.1 q = true := by decide +kernel
set_option maxRecDepth 100000 in
theorem tx_mo_isSign (oG : List (Nat × gk_G)) : ∀ q ∈ tb_mo_isSign, gk_xok "DryPlacesModel" pl_mo (3, sw_mo_isSign, oG) q := by
  have h : tb_mo_isSign.all (fun q => gk_xokb "DryPlacesModel" pl_mo sw_mo_isSign q) = true := by decide +kernel
  exact fun q hq => gk_xok_of (List.all_eq_true.mp h q hq)
theorem ok_mo_isSign (oG : List (Nat × gk_G)) : gk_ok gk_M 198 tb_mo_isSign pl_mo (3, sw_mo_isSign, oG) := ⟨te_mo_isSign, pk_mo, tx_mo_isSign oG, rfl⟩
def tb_mo_emits : gk_T := [(0, .aload_n 0, 1, 0), (1, .getfield 46, 4, 0), (4, .sipush 800, 7, 0), (7, .aload_n 0, 8, 0), (8, .getfield 195, 11, 0), (11, .iadd, 12, 0), (12, .iload_n 1, 13, 0), (13, .iastore, 14, 0), (14, .aload_n 0, 15, 0), (15, .getfield 49, 18, 0), (18, .sipush 800, 21, 0), (21, .aload_n 0, 22, 0), (22, .getfield 195, 25, 0), (25, .iadd, 26, 0), (26, .iload_n 2, 27, 0), (27, .iastore, 28, 0), (28, .aload_n 0, 29, 0), (29, .aload_n 0, 30, 0), (30, .getfield 195, 33, 0), (33, .iconst 1, 34, 0), (34, .iadd, 35, 0), (35, .putfield 195, 38, 0), (38, .return_, 39, 0)]
def sw_mo_emits : List (Nat × List (Int32 × Nat) × Nat) := []
set_option maxRecDepth 100000 in
theorem te_mo_emits : ∀ q ∈ tb_mo_emits, gk_eok (gk_M 199).2.1 q = true := by decide +kernel
set_option maxRecDepth 100000 in
theorem tx_mo_emits (oG : List (Nat × gk_G)) : ∀ q ∈ tb_mo_emits, gk_xok "DryPlacesModel" pl_mo (0, sw_mo_emits, oG) q := by
  have h : tb_mo_emits.all (fun q => gk_xokb "DryPlacesModel" pl_mo sw_mo_emits q) = true := by decide +kernel
  exact fun q hq => gk_xok_of (List.all_eq_true.mp h q hq)
theorem ok_mo_emits (oG : List (Nat × gk_G)) : gk_ok gk_M 199 tb_mo_emits pl_mo (0, sw_mo_emits, oG) := ⟨te_mo_emits, pk_mo, tx_mo_emits oG, rfl⟩
def tb_mo_canAsk : gk_T := [(0, .aload_n 0, 1, 0), (1, .iload_n 1, 2, 0), (2, .bipush 7, 4, 0), (4, .bipush 15, 6, 0), (6, .invokevirtual 125, 9, 0), (9, .ireturn, 10, 0)]
def sw_mo_canAsk : List (Nat × List (Int32 × Nat) × Nat) := []
set_option maxRecDepth 100000 in
theorem te_mo_canAsk : ∀ q ∈ tb_mo_canAsk, gk_eok (gk_M 200).2.1 q = true := by decide +kernel
set_option maxRecDepth 100000 in
theorem tx_mo_canAsk (oG : List (Nat × gk_G)) : ∀ q ∈ tb_mo_canAsk, gk_xok "DryPlacesModel" pl_mo (3, sw_mo_canAsk, oG) q := by
  have h : tb_mo_canAsk.all (fun q => gk_xokb "DryPlacesModel" pl_mo sw_mo_canAsk q) = true := by decide +kernel
  exact fun q hq => gk_xok_of (List.all_eq_true.mp h q hq)
theorem ok_mo_canAsk (oG : List (Nat × gk_G)) : gk_ok gk_M 200 tb_mo_canAsk pl_mo (3, sw_mo_canAsk, oG) := ⟨te_mo_canAsk, pk_mo, tx_mo_canAsk oG, rfl⟩
def tb_mo_readUnit : gk_T := [(0, .aload_n 0, 1, 0), (1, .getfield 171, 4, 0), (4, .iconst 2, 5, 0), (5, .if_icmp .ne 18, 8, 23), (8, .aload_n 0, 9, 0), (9, .aload_n 0, 10, 0), (10, .getfield 174, 13, 0), (13, .invokevirtual 198, 16, 0), (16, .ifCond .eq 7, 19, 23), (19, .iconst 1, 20, 0), (20, .goto 4, 23, 24), (23, .iconst 0, 24, 0), (24, .istore_n 1, 25, 0), (25, .iload_n 1, 26, 0), (26, .ifCond .ne 17, 29, 43), (29, .aload_n 0, 30, 0), (30, .getfield 171, 33, 0), (33, .iconst 3, 34, 0), (34, .if_icmp .eq 9, 37, 43), (37, .aload_n 0, 38, 0), (38, .iconst 1, 39, 0), (39, .invokevirtual 201, 42, 0), (42, .ireturn, 43, 0), (43, .aload_n 0, 44, 0), (44, .iload_n 1, 45, 0), (45, .ifCond .eq 7, 48, 52), (48, .iconst 1, 49, 0), (49, .goto 4, 52, 53), (52, .iconst 0, 53, 0), (53, .iload_n 1, 54, 0), (54, .ifCond .eq 13, 57, 67), (57, .aload_n 0, 58, 0), (58, .getfield 174, 61, 0), (61, .bipush 7, 63, 0), (63, .isub, 64, 0), (64, .goto 7, 67, 71), (67, .aload_n 0, 68, 0), (68, .getfield 174, 71, 0), (71, .invokevirtual 204, 74, 0), (74, .aload_n 0, 75, 0), (75, .invokevirtual 208, 78, 0), (78, .iconst 0, 79, 0), (79, .ireturn, 80, 0)]
def sw_mo_readUnit : List (Nat × List (Int32 × Nat) × Nat) := []
set_option maxRecDepth 100000 in
theorem te_mo_readUnit : ∀ q ∈ tb_mo_readUnit, gk_eok (gk_M 201).2.1 q = true := by decide +kernel
set_option maxRecDepth 100000 in
theorem tx_mo_readUnit (oG : List (Nat × gk_G)) : ∀ q ∈ tb_mo_readUnit, gk_xok "DryPlacesModel" pl_mo (1, sw_mo_readUnit, oG) q := by
  have h : tb_mo_readUnit.all (fun q => gk_xokb "DryPlacesModel" pl_mo sw_mo_readUnit q) = true := by decide +kernel
  exact fun q hq => gk_xok_of (List.all_eq_true.mp h q hq)
theorem ok_mo_readUnit (oG : List (Nat × gk_G)) : gk_ok gk_M 201 tb_mo_readUnit pl_mo (1, sw_mo_readUnit, oG) := ⟨te_mo_readUnit, pk_mo, tx_mo_readUnit oG, rfl⟩
def tb_mo_readProduct : gk_T := [(0, .aload_n 0, 1, 0), (1, .invokevirtual 211, 4, 0), (4, .iconst (-1), 5, 0), (5, .if_icmp .ne 5, 8, 10), (8, .iconst (-1), 9, 0), (9, .ireturn, 10, 0), (10, .aload_n 0, 11, 0), (11, .bipush 42, 13, 0), (13, .invokevirtual 215, 16, 0), (16, .ifCond .ne 12, 19, 28), (19, .aload_n 0, 20, 0), (20, .bipush 47, 22, 0), (22, .invokevirtual 215, 25, 0), (25, .ifCond .eq 76, 28, 101), (28, .aload_n 0, 29, 0), (29, .bipush 42, 31, 0), (31, .invokevirtual 215, 34, 0), (34, .istore_n 1, 35, 0), (35, .aload_n 0, 36, 0), (36, .invokevirtual 208, 39, 0), (39, .iload_n 1, 40, 0), (40, .ifCond .ne 17, 43, 57), (43, .aload_n 0, 44, 0), (44, .getfield 171, 47, 0), (47, .iconst 3, 48, 0), (48, .if_icmp .eq 9, 51, 57), (51, .aload_n 0, 52, 0), (52, .iconst 1, 53, 0), (53, .invokevirtual 201, 56, 0), (56, .ireturn, 57, 0), (57, .iload_n 1, 58, 0), (58, .ifCond .ne 16, 61, 74), (61, .aload_n 0, 62, 0), (62, .getfield 174, 65, 0), (65, .ifCond .ne 9, 68, 74), (68, .aload_n 0, 69, 0), (69, .iconst 2, 70, 0), (70, .invokevirtual 201, 73, 0), (73, .ireturn, 74, 0), (74, .aload_n 0, 75, 0), (75, .invokevirtual 211, 78, 0), (78, .iconst (-1), 79, 0), (79, .if_icmp .ne 5, 82, 84), (82, .iconst (-1), 83, 0), (83, .ireturn, 84, 0), (84, .aload_n 0, 85, 0), (85, .iload_n 1, 86, 0), (86, .ifCond .eq 7, 89, 93), (89, .iconst 4, 90, 0), (90, .goto 4, 93, 94), (93, .iconst 5, 94, 0), (94, .iconst 0, 95, 0), (95, .invokevirtual 204, 98, 0), (98, .goto (-88), 101, 10), (101, .iconst 0, 102, 0), (102, .ireturn, 103, 0)]
def sw_mo_readProduct : List (Nat × List (Int32 × Nat) × Nat) := []
set_option maxRecDepth 100000 in
theorem te_mo_readProduct : ∀ q ∈ tb_mo_readProduct, gk_eok (gk_M 202).2.1 q = true := by decide +kernel
set_option maxRecDepth 100000 in
theorem tx_mo_readProduct (oG : List (Nat × gk_G)) : ∀ q ∈ tb_mo_readProduct, gk_xok "DryPlacesModel" pl_mo (1, sw_mo_readProduct, oG) q := by
  have h : tb_mo_readProduct.all (fun q => gk_xokb "DryPlacesModel" pl_mo sw_mo_readProduct q) = true := by decide +kernel
  exact fun q hq => gk_xok_of (List.all_eq_true.mp h q hq)
theorem ok_mo_readProduct (oG : List (Nat × gk_G)) : gk_ok gk_M 202 tb_mo_readProduct pl_mo (1, sw_mo_readProduct, oG) := ⟨te_mo_readProduct, pk_mo, tx_mo_readProduct oG, rfl⟩
def tb_mo_readSum : gk_T := [(0, .aload_n 0, 1, 0), (1, .invokevirtual 218, 4, 0), (4, .iconst (-1), 5, 0), (5, .if_icmp .ne 5, 8, 10), (8, .iconst (-1), 9, 0), (9, .ireturn, 10, 0), (10, .aload_n 0, 11, 0), (11, .bipush 43, 13, 0), (13, .invokevirtual 215, 16, 0), (16, .ifCond .ne 12, 19, 28), (19, .aload_n 0, 20, 0), (20, .bipush 45, 22, 0), (22, .invokevirtual 215, 25, 0), (25, .ifCond .eq 41, 28, 66), (28, .aload_n 0, 29, 0), (29, .getfield 174, 32, 0), (32, .bipush 43, 34, 0), (34, .if_icmp .ne 7, 37, 41), (37, .iconst 2, 38, 0), (38, .goto 4, 41, 42), (41, .iconst 3, 42, 0), (42, .istore_n 1, 43, 0), (43, .aload_n 0, 44, 0), (44, .invokevirtual 208, 47, 0), (47, .aload_n 0, 48, 0), (48, .invokevirtual 218, 51, 0), (51, .iconst (-1), 52, 0), (52, .if_icmp .ne 5, 55, 57), (55, .iconst (-1), 56, 0), (56, .ireturn, 57, 0), (57, .aload_n 0, 58, 0), (58, .iload_n 1, 59, 0), (59, .iconst 0, 60, 0), (60, .invokevirtual 204, 63, 0), (63, .goto (-53), 66, 10), (66, .iconst 0, 67, 0), (67, .ireturn, 68, 0)]
def sw_mo_readSum : List (Nat × List (Int32 × Nat) × Nat) := []
set_option maxRecDepth 100000 in
theorem te_mo_readSum : ∀ q ∈ tb_mo_readSum, gk_eok (gk_M 203).2.1 q = true := by decide +kernel
set_option maxRecDepth 100000 in
theorem tx_mo_readSum (oG : List (Nat × gk_G)) : ∀ q ∈ tb_mo_readSum, gk_xok "DryPlacesModel" pl_mo (1, sw_mo_readSum, oG) q := by
  have h : tb_mo_readSum.all (fun q => gk_xokb "DryPlacesModel" pl_mo sw_mo_readSum q) = true := by decide +kernel
  exact fun q hq => gk_xok_of (List.all_eq_true.mp h q hq)
theorem ok_mo_readSum (oG : List (Nat × gk_G)) : gk_ok gk_M 203 tb_mo_readSum pl_mo (1, sw_mo_readSum, oG) := ⟨te_mo_readSum, pk_mo, tx_mo_readSum oG, rfl⟩
def tb_mo_readCompared : gk_T := [(0, .aload_n 0, 1, 0), (1, .invokevirtual 221, 4, 0), (4, .iconst (-1), 5, 0), (5, .if_icmp .ne 5, 8, 10), (8, .iconst (-1), 9, 0), (9, .ireturn, 10, 0), (10, .aload_n 0, 11, 0), (11, .bipush 60, 13, 0), (13, .invokevirtual 215, 16, 0), (16, .ifCond .ne 27, 19, 43), (19, .aload_n 0, 20, 0), (20, .bipush 61, 22, 0), (22, .invokevirtual 215, 25, 0), (25, .ifCond .ne 18, 28, 43), (28, .aload_n 0, 29, 0), (29, .bipush 62, 31, 0), (31, .invokevirtual 215, 34, 0), (34, .ifCond .ne 9, 37, 43), (37, .aload_n 0, 38, 0), (38, .iconst 1, 39, 0), (39, .invokevirtual 201, 42, 0), (42, .ireturn, 43, 0), (43, .aload_n 0, 44, 0), (44, .getfield 174, 47, 0), (47, .bipush 60, 49, 0), (49, .if_icmp .ne 8, 52, 57), (52, .bipush 6, 54, 0), (54, .goto 19, 57, 73), (57, .aload_n 0, 58, 0), (58, .getfield 174, 61, 0), (61, .bipush 61, 63, 0), (63, .if_icmp .ne 8, 66, 71), (66, .bipush 7, 68, 0), (68, .goto 5, 71, 73), (71, .bipush 8, 73, 0), (73, .istore_n 1, 74, 0), (74, .aload_n 0, 75, 0), (75, .invokevirtual 208, 78, 0), (78, .aload_n 0, 79, 0), (79, .invokevirtual 221, 82, 0), (82, .iconst (-1), 83, 0), (83, .if_icmp .ne 5, 86, 88), (86, .iconst (-1), 87, 0), (87, .ireturn, 88, 0), (88, .aload_n 0, 89, 0), (89, .iload_n 1, 90, 0), (90, .iconst 0, 91, 0), (91, .invokevirtual 204, 94, 0), (94, .iconst 0, 95, 0), (95, .ireturn, 96, 0)]
def sw_mo_readCompared : List (Nat × List (Int32 × Nat) × Nat) := []
set_option maxRecDepth 100000 in
theorem te_mo_readCompared : ∀ q ∈ tb_mo_readCompared, gk_eok (gk_M 204).2.1 q = true := by decide +kernel
set_option maxRecDepth 100000 in
theorem tx_mo_readCompared (oG : List (Nat × gk_G)) : ∀ q ∈ tb_mo_readCompared, gk_xok "DryPlacesModel" pl_mo (1, sw_mo_readCompared, oG) q := by
  have h : tb_mo_readCompared.all (fun q => gk_xokb "DryPlacesModel" pl_mo sw_mo_readCompared q) = true := by decide +kernel
  exact fun q hq => gk_xok_of (List.all_eq_true.mp h q hq)
theorem ok_mo_readCompared (oG : List (Nat × gk_G)) : gk_ok gk_M 204 tb_mo_readCompared pl_mo (1, sw_mo_readCompared, oG) := ⟨te_mo_readCompared, pk_mo, tx_mo_readCompared oG, rfl⟩
def tb_mo_waits : gk_T := [(0, .aload_n 0, 1, 0), (1, .getfield 52, 4, 0), (4, .aload_n 0, 5, 0), (5, .getfield 224, 8, 0), (8, .iload_n 1, 9, 0), (9, .iastore, 10, 0), (10, .aload_n 0, 11, 0), (11, .aload_n 0, 12, 0), (12, .getfield 224, 15, 0), (15, .iconst 1, 16, 0), (16, .iadd, 17, 0), (17, .putfield 224, 20, 0), (20, .return_, 21, 0)]
def sw_mo_waits : List (Nat × List (Int32 × Nat) × Nat) := []
set_option maxRecDepth 100000 in
theorem te_mo_waits : ∀ q ∈ tb_mo_waits, gk_eok (gk_M 205).2.1 q = true := by decide +kernel
set_option maxRecDepth 100000 in
theorem tx_mo_waits (oG : List (Nat × gk_G)) : ∀ q ∈ tb_mo_waits, gk_xok "DryPlacesModel" pl_mo (0, sw_mo_waits, oG) q := by
  have h : tb_mo_waits.all (fun q => gk_xokb "DryPlacesModel" pl_mo sw_mo_waits q) = true := by decide +kernel
  exact fun q hq => gk_xok_of (List.all_eq_true.mp h q hq)
theorem ok_mo_waits (oG : List (Nat × gk_G)) : gk_ok gk_M 205 tb_mo_waits pl_mo (0, sw_mo_waits, oG) := ⟨te_mo_waits, pk_mo, tx_mo_waits oG, rfl⟩
def tb_mo_settles : gk_T := [(0, .aload_n 0, 1, 0), (1, .getfield 224, 4, 0), (4, .ifCond .le 53, 7, 57), (7, .aload_n 0, 8, 0), (8, .getfield 52, 11, 0), (11, .aload_n 0, 12, 0), (12, .getfield 224, 15, 0), (15, .iconst 1, 16, 0), (16, .isub, 17, 0), (17, .iaload, 18, 0), (18, .iload_n 1, 19, 0), (19, .if_icmp .ne 38, 22, 57), (22, .aload_n 0, 23, 0), (23, .aload_n 0, 24, 0), (24, .getfield 224, 27, 0), (27, .iconst 1, 28, 0), (28, .isub, 29, 0), (29, .putfield 224, 32, 0), (32, .aload_n 0, 33, 0), (33, .iload_n 1, 34, 0), (34, .iconst 0, 35, 0), (35, .invokevirtual 204, 38, 0), (38, .iload_n 1, 39, 0), (39, .bipush 9, 41, 0), (41, .if_icmp .ne (-41), 44, 0), (44, .aload_n 0, 45, 0), (45, .aload_n 0, 46, 0), (46, .getfield 227, 49, 0), (49, .iconst 1, 50, 0), (50, .isub, 51, 0), (51, .putfield 227, 54, 0), (54, .goto (-54), 57, 0), (57, .return_, 58, 0)]
def sw_mo_settles : List (Nat × List (Int32 × Nat) × Nat) := []
set_option maxRecDepth 100000 in
theorem te_mo_settles : ∀ q ∈ tb_mo_settles, gk_eok (gk_M 206).2.1 q = true := by decide +kernel
set_option maxRecDepth 100000 in
theorem tx_mo_settles (oG : List (Nat × gk_G)) : ∀ q ∈ tb_mo_settles, gk_xok "DryPlacesModel" pl_mo (0, sw_mo_settles, oG) q := by
  have h : tb_mo_settles.all (fun q => gk_xokb "DryPlacesModel" pl_mo sw_mo_settles q) = true := by decide +kernel
  exact fun q hq => gk_xok_of (List.all_eq_true.mp h q hq)
theorem ok_mo_settles (oG : List (Nat × gk_G)) : gk_ok gk_M 206 tb_mo_settles pl_mo (0, sw_mo_settles, oG) := ⟨te_mo_settles, pk_mo, tx_mo_settles oG, rfl⟩
def tb_mo_readAny : gk_T := [(0, .iconst 0, 1, 0), (1, .istore_n 1, 2, 0), (2, .aload_n 0, 3, 0), (3, .iconst 0, 4, 0), (4, .putfield 224, 7, 0), (7, .iconst 1, 8, 0), (8, .istore_n 2, 9, 0), (9, .iload_n 2, 10, 0), (10, .ifCond .eq 99, 13, 109), (13, .aload_n 0, 14, 0), (14, .bipush 6, 16, 0), (16, .invokevirtual 230, 19, 0), (19, .istore_n 3, 20, 0), (20, .iload_n 3, 21, 0), (21, .ifCond .ne 12, 24, 33), (24, .aload_n 0, 25, 0), (25, .bipush 40, 27, 0), (27, .invokevirtual 215, 30, 0), (30, .ifCond .eq 58, 33, 88), (33, .aload_n 0, 34, 0), (34, .getfield 227, 37, 0), (37, .bipush 8, 39, 0), (39, .if_icmp .ne 9, 42, 48), (42, .aload_n 0, 43, 0), (43, .iconst 3, 44, 0), (44, .invokevirtual 201, 47, 0), (47, .ireturn, 48, 0), (48, .aload_n 0, 49, 0), (49, .aload_n 0, 50, 0), (50, .getfield 227, 53, 0), (53, .iconst 1, 54, 0), (54, .iadd, 55, 0), (55, .putfield 227, 58, 0), (58, .iload_n 3, 59, 0), (59, .ifCond .ne 7, 62, 66), (62, .iload_n 1, 63, 0), (63, .iconst 1, 64, 0), (64, .iadd, 65, 0), (65, .istore_n 1, 66, 0), (66, .aload_n 0, 67, 0), (67, .iload_n 3, 68, 0), (68, .ifCond .eq 8, 71, 76), (71, .bipush 9, 73, 0), (73, .goto 5, 76, 78), (76, .bipush 12, 78, 0), (78, .invokevirtual 233, 81, 0), (81, .aload_n 0, 82, 0), (82, .invokevirtual 208, 85, 0), (85, .goto (-76), 88, 9), (88, .aload_n 0, 89, 0), (89, .invokevirtual 236, 92, 0), (92, .iconst (-1), 93, 0), (93, .if_icmp .ne 5, 96, 98), (96, .iconst (-1), 97, 0), (97, .ireturn, 98, 0), (98, .aload_n 0, 99, 0), (99, .bipush 9, 101, 0), (101, .invokevirtual 239, 104, 0), (104, .iconst 0, 105, 0), (105, .istore_n 2, 106, 0), (106, .goto (-97), 109, 9), (109, .aload_n 0, 110, 0), (110, .iconst 5, 111, 0), (111, .invokevirtual 230, 114, 0), (114, .ifCond .eq 24, 117, 138), (117, .aload_n 0, 118, 0), (118, .bipush 10, 120, 0), (120, .invokevirtual 239, 123, 0), (123, .aload_n 0, 124, 0), (124, .bipush 10, 126, 0), (126, .invokevirtual 233, 129, 0), (129, .aload_n 0, 130, 0), (130, .invokevirtual 208, 133, 0), (133, .iconst 1, 134, 0), (134, .istore_n 2, 135, 0), (135, .goto (-126), 138, 9), (138, .aload_n 0, 139, 0), (139, .iconst 4, 140, 0), (140, .invokevirtual 230, 143, 0), (143, .ifCond .eq 30, 146, 173), (146, .aload_n 0, 147, 0), (147, .bipush 10, 149, 0), (149, .invokevirtual 239, 152, 0), (152, .aload_n 0, 153, 0), (153, .bipush 11, 155, 0), (155, .invokevirtual 239, 158, 0), (158, .aload_n 0, 159, 0), (159, .bipush 11, 161, 0), (161, .invokevirtual 233, 164, 0), (164, .aload_n 0, 165, 0), (165, .invokevirtual 208, 168, 0), (168, .iconst 1, 169, 0), (169, .istore_n 2, 170, 0), (170, .goto (-161), 173, 9), (173, .aload_n 0, 174, 0), (174, .bipush 10, 176, 0), (176, .invokevirtual 239, 179, 0), (179, .aload_n 0, 180, 0), (180, .bipush 11, 182, 0), (182, .invokevirtual 239, 185, 0), (185, .iload_n 1, 186, 0), (186, .ifCond .ne 5, 189, 191), (189, .iconst 0, 190, 0), (190, .ireturn, 191, 0), (191, .aload_n 0, 192, 0), (192, .bipush 41, 194, 0), (194, .invokevirtual 215, 197, 0), (197, .ifCond .ne 9, 200, 206), (200, .aload_n 0, 201, 0), (201, .iconst 1, 202, 0), (202, .invokevirtual 201, 205, 0), (205, .ireturn, 206, 0), (206, .aload_n 0, 207, 0), (207, .aload_n 0, 208, 0), (208, .getfield 224, 211, 0), (211, .iconst 1, 212, 0), (212, .isub, 213, 0), (213, .putfield 224, 216, 0), (216, .iload_n 1, 217, 0), (217, .iconst 1, 218, 0), (218, .isub, 219, 0), (219, .istore_n 1, 220, 0), (220, .aload_n 0, 221, 0), (221, .aload_n 0, 222, 0), (222, .getfield 227, 225, 0), (225, .iconst 1, 226, 0), (226, .isub, 227, 0), (227, .putfield 227, 230, 0), (230, .aload_n 0, 231, 0), (231, .bipush 9, 233, 0), (233, .invokevirtual 239, 236, 0), (236, .aload_n 0, 237, 0), (237, .invokevirtual 208, 240, 0), (240, .goto (-231), 243, 9)]
def sw_mo_readAny : List (Nat × List (Int32 × Nat) × Nat) := []
set_option maxRecDepth 100000 in
theorem te_mo_readAny : ∀ q ∈ tb_mo_readAny, gk_eok (gk_M 207).2.1 q = true := by decide +kernel
set_option maxRecDepth 100000 in
theorem tx_mo_readAny (oG : List (Nat × gk_G)) : ∀ q ∈ tb_mo_readAny, gk_xok "DryPlacesModel" pl_mo (1, sw_mo_readAny, oG) q := by
  have h : tb_mo_readAny.all (fun q => gk_xokb "DryPlacesModel" pl_mo sw_mo_readAny q) = true := by decide +kernel
  exact fun q hq => gk_xok_of (List.all_eq_true.mp h q hq)
theorem ok_mo_readAny (oG : List (Nat × gk_G)) : gk_ok gk_M 207 tb_mo_readAny pl_mo (1, sw_mo_readAny, oG) := ⟨te_mo_readAny, pk_mo, tx_mo_readAny oG, rfl⟩
def tb_mo_isLineWord : gk_T := [(0, .aload_n 0, 1, 0), (1, .getfield 171, 4, 0), (4, .iconst 2, 5, 0), (5, .if_icmp .ne 20, 8, 25), (8, .aload_n 0, 9, 0), (9, .aload_n 0, 10, 0), (10, .getfield 174, 13, 0), (13, .iconst 0, 14, 0), (14, .iconst 2, 15, 0), (15, .invokevirtual 125, 18, 0), (18, .ifCond .eq 7, 21, 25), (21, .iconst 1, 22, 0), (22, .goto 4, 25, 26), (25, .iconst 0, 26, 0), (26, .ireturn, 27, 0)]
def sw_mo_isLineWord : List (Nat × List (Int32 × Nat) × Nat) := []
set_option maxRecDepth 100000 in
theorem te_mo_isLineWord : ∀ q ∈ tb_mo_isLineWord, gk_eok (gk_M 208).2.1 q = true := by decide +kernel
set_option maxRecDepth 100000 in
theorem tx_mo_isLineWord (oG : List (Nat × gk_G)) : ∀ q ∈ tb_mo_isLineWord, gk_xok "DryPlacesModel" pl_mo (3, sw_mo_isLineWord, oG) q := by
  have h : tb_mo_isLineWord.all (fun q => gk_xokb "DryPlacesModel" pl_mo sw_mo_isLineWord q) = true := by decide +kernel
  exact fun q hq => gk_xok_of (List.all_eq_true.mp h q hq)
theorem ok_mo_isLineWord (oG : List (Nat × gk_G)) : gk_ok gk_M 208 tb_mo_isLineWord pl_mo (3, sw_mo_isLineWord, oG) := ⟨te_mo_isLineWord, pk_mo, tx_mo_isLineWord oG, rfl⟩
def tb_mo_readLaw : gk_T := [(0, .iconst 0, 1, 0), (1, .istore_n 1, 2, 0), (2, .aload_n 0, 3, 0), (3, .invokevirtual 242, 6, 0), (6, .ifCond .eq 122, 9, 128), (9, .iload_n 1, 10, 0), (10, .bipush 16, 12, 0), (12, .if_icmp .ne 9, 15, 21), (15, .aload_n 0, 16, 0), (16, .iconst 3, 17, 0), (17, .invokevirtual 201, 20, 0), (20, .ireturn, 21, 0), (21, .bipush 32, 23, 0), (23, .iload_n 1, 24, 0), (24, .iadd, 25, 0), (25, .istore_n 2, 26, 0), (26, .aload_n 0, 27, 0), (27, .getfield 34, 30, 0), (30, .iload_n 2, 31, 0), (31, .aload_n 0, 32, 0), (32, .getfield 174, 35, 0), (35, .iastore, 36, 0), (36, .aload_n 0, 37, 0), (37, .invokevirtual 208, 40, 0), (40, .aload_n 0, 41, 0), (41, .getfield 37, 44, 0), (44, .iload_n 2, 45, 0), (45, .aload_n 0, 46, 0), (46, .getfield 195, 49, 0), (49, .iastore, 50, 0), (50, .aload_n 0, 51, 0), (51, .invokevirtual 221, 54, 0), (54, .iconst (-1), 55, 0), (55, .if_icmp .ne 5, 58, 60), (58, .iconst (-1), 59, 0), (59, .ireturn, 60, 0), (60, .aload_n 0, 61, 0), (61, .getfield 40, 64, 0), (64, .iload_n 2, 65, 0), (65, .aload_n 0, 66, 0), (66, .getfield 195, 69, 0), (69, .iastore, 70, 0), (70, .aload_n 0, 71, 0), (71, .iconst 3, 72, 0), (72, .invokevirtual 230, 75, 0), (75, .ifCond .eq 17, 78, 92), (78, .aload_n 0, 79, 0), (79, .invokevirtual 208, 82, 0), (82, .aload_n 0, 83, 0), (83, .invokevirtual 246, 86, 0), (86, .iconst (-1), 87, 0), (87, .if_icmp .ne 5, 90, 92), (90, .iconst (-1), 91, 0), (91, .ireturn, 92, 0), (92, .aload_n 0, 93, 0), (93, .getfield 43, 96, 0), (96, .iload_n 2, 97, 0), (97, .aload_n 0, 98, 0), (98, .getfield 195, 101, 0), (101, .iastore, 102, 0), (102, .aload_n 0, 103, 0), (103, .bipush 59, 105, 0), (105, .invokevirtual 215, 108, 0), (108, .ifCond .ne 9, 111, 117), (111, .aload_n 0, 112, 0), (112, .iconst 1, 113, 0), (113, .invokevirtual 201, 116, 0), (116, .ireturn, 117, 0), (117, .aload_n 0, 118, 0), (118, .invokevirtual 208, 121, 0), (121, .iload_n 1, 122, 0), (122, .iconst 1, 123, 0), (123, .iadd, 124, 0), (124, .istore_n 1, 125, 0), (125, .goto (-123), 128, 2), (128, .aload_n 0, 129, 0), (129, .getfield 171, 132, 0), (132, .ifCond .ne 7, 135, 139), (135, .iload_n 1, 136, 0), (136, .goto 8, 139, 144), (139, .aload_n 0, 140, 0), (140, .iconst 1, 141, 0), (141, .invokevirtual 201, 144, 0), (144, .ireturn, 145, 0)]
def sw_mo_readLaw : List (Nat × List (Int32 × Nat) × Nat) := []
set_option maxRecDepth 100000 in
theorem te_mo_readLaw : ∀ q ∈ tb_mo_readLaw, gk_eok (gk_M 209).2.1 q = true := by decide +kernel
set_option maxRecDepth 100000 in
theorem tx_mo_readLaw (oG : List (Nat × gk_G)) : ∀ q ∈ tb_mo_readLaw, gk_xok "DryPlacesModel" pl_mo (1, sw_mo_readLaw, oG) q := by
  have h : tb_mo_readLaw.all (fun q => gk_xokb "DryPlacesModel" pl_mo sw_mo_readLaw q) = true := by decide +kernel
  exact fun q hq => gk_xok_of (List.all_eq_true.mp h q hq)
theorem ok_mo_readLaw (oG : List (Nat × gk_G)) : gk_ok gk_M 209 tb_mo_readLaw pl_mo (1, sw_mo_readLaw, oG) := ⟨te_mo_readLaw, pk_mo, tx_mo_readLaw oG, rfl⟩
def tb_mo_takesLaw : gk_T := [(0, .iconst 0, 1, 0), (1, .istore_n 2, 2, 0), (2, .iload_n 2, 3, 0), (3, .iload_n 1, 4, 0), (4, .if_icmp .ge 101, 7, 105), (7, .aload_n 0, 8, 0), (8, .getfield 34, 11, 0), (11, .bipush 16, 13, 0), (13, .aload_n 0, 14, 0), (14, .getfield 249, 17, 0), (17, .imul, 18, 0), (18, .iload_n 2, 19, 0), (19, .iadd, 20, 0), (20, .aload_n 0, 21, 0), (21, .getfield 34, 24, 0), (24, .bipush 32, 26, 0), (26, .iload_n 2, 27, 0), (27, .iadd, 28, 0), (28, .iaload, 29, 0), (29, .iastore, 30, 0), (30, .aload_n 0, 31, 0), (31, .getfield 37, 34, 0), (34, .bipush 16, 36, 0), (36, .aload_n 0, 37, 0), (37, .getfield 249, 40, 0), (40, .imul, 41, 0), (41, .iload_n 2, 42, 0), (42, .iadd, 43, 0), (43, .aload_n 0, 44, 0), (44, .getfield 37, 47, 0), (47, .bipush 32, 49, 0), (49, .iload_n 2, 50, 0), (50, .iadd, 51, 0), (51, .iaload, 52, 0), (52, .iastore, 53, 0), (53, .aload_n 0, 54, 0), (54, .getfield 40, 57, 0), (57, .bipush 16, 59, 0), (59, .aload_n 0, 60, 0), (60, .getfield 249, 63, 0), (63, .imul, 64, 0), (64, .iload_n 2, 65, 0), (65, .iadd, 66, 0), (66, .aload_n 0, 67, 0), (67, .getfield 40, 70, 0), (70, .bipush 32, 72, 0), (72, .iload_n 2, 73, 0), (73, .iadd, 74, 0), (74, .iaload, 75, 0), (75, .iastore, 76, 0), (76, .aload_n 0, 77, 0), (77, .getfield 43, 80, 0), (80, .bipush 16, 82, 0), (82, .aload_n 0, 83, 0), (83, .getfield 249, 86, 0), (86, .imul, 87, 0), (87, .iload_n 2, 88, 0), (88, .iadd, 89, 0), (89, .aload_n 0, 90, 0), (90, .getfield 43, 93, 0), (93, .bipush 32, 95, 0), (95, .iload_n 2, 96, 0), (96, .iadd, 97, 0), (97, .iaload, 98, 0), (98, .iastore, 99, 0), (99, .iinc 2 1, 102, 0), (102, .goto (-100), 105, 2), (105, .iconst 0, 106, 0), (106, .istore_n 2, 107, 0), (107, .iload_n 2, 108, 0), (108, .aload_n 0, 109, 0), (109, .getfield 195, 112, 0), (112, .if_icmp .ge 59, 115, 171), (115, .aload_n 0, 116, 0), (116, .getfield 46, 119, 0), (119, .sipush 400, 122, 0), (122, .aload_n 0, 123, 0), (123, .getfield 249, 126, 0), (126, .imul, 127, 0), (127, .iload_n 2, 128, 0), (128, .iadd, 129, 0), (129, .aload_n 0, 130, 0), (130, .getfield 46, 133, 0), (133, .sipush 800, 136, 0), (136, .iload_n 2, 137, 0), (137, .iadd, 138, 0), (138, .iaload, 139, 0), (139, .iastore, 140, 0), (140, .aload_n 0, 141, 0), (141, .getfield 49, 144, 0), (144, .sipush 400, 147, 0), (147, .aload_n 0, 148, 0), (148, .getfield 249, 151, 0), (151, .imul, 152, 0), (152, .iload_n 2, 153, 0), (153, .iadd, 154, 0), (154, .aload_n 0, 155, 0), (155, .getfield 49, 158, 0), (158, .sipush 800, 161, 0), (161, .iload_n 2, 162, 0), (162, .iadd, 163, 0), (163, .iaload, 164, 0), (164, .iastore, 165, 0), (165, .iinc 2 1, 168, 0), (168, .goto (-61), 171, 107), (171, .aload_n 0, 172, 0), (172, .getfield 31, 175, 0), (175, .aload_n 0, 176, 0), (176, .getfield 249, 179, 0), (179, .iload_n 1, 180, 0), (180, .iastore, 181, 0), (181, .return_, 182, 0)]
def sw_mo_takesLaw : List (Nat × List (Int32 × Nat) × Nat) := []
set_option maxRecDepth 100000 in
theorem te_mo_takesLaw : ∀ q ∈ tb_mo_takesLaw, gk_eok (gk_M 210).2.1 q = true := by decide +kernel
set_option maxRecDepth 100000 in
theorem tx_mo_takesLaw (oG : List (Nat × gk_G)) : ∀ q ∈ tb_mo_takesLaw, gk_xok "DryPlacesModel" pl_mo (0, sw_mo_takesLaw, oG) q := by
  have h : tb_mo_takesLaw.all (fun q => gk_xokb "DryPlacesModel" pl_mo sw_mo_takesLaw q) = true := by decide +kernel
  exact fun q hq => gk_xok_of (List.all_eq_true.mp h q hq)
theorem ok_mo_takesLaw (oG : List (Nat × gk_G)) : gk_ok gk_M 210 tb_mo_takesLaw pl_mo (0, sw_mo_takesLaw, oG) := ⟨te_mo_takesLaw, pk_mo, tx_mo_takesLaw oG, rfl⟩
def tb_mo_readNumber : gk_T := [(0, .aload_n 0, 1, 0), (1, .getfield 171, 4, 0), (4, .iconst 3, 5, 0), (5, .if_icmp .eq 9, 8, 14), (8, .aload_n 0, 9, 0), (9, .iconst 1, 10, 0), (10, .invokevirtual 201, 13, 0), (13, .ireturn, 14, 0), (14, .aload_n 0, 15, 0), (15, .aload_n 0, 16, 0), (16, .getfield 174, 19, 0), (19, .iload_n 1, 20, 0), (20, .iload_n 2, 21, 0), (21, .invokevirtual 125, 24, 0), (24, .ifCond .ne 9, 27, 33), (27, .aload_n 0, 28, 0), (28, .iconst 2, 29, 0), (29, .invokevirtual 201, 32, 0), (32, .ireturn, 33, 0), (33, .aload_n 0, 34, 0), (34, .getfield 174, 37, 0), (37, .istore_n 3, 38, 0), (38, .aload_n 0, 39, 0), (39, .invokevirtual 208, 42, 0), (42, .iload_n 3, 43, 0), (43, .ireturn, 44, 0)]
def sw_mo_readNumber : List (Nat × List (Int32 × Nat) × Nat) := []
set_option maxRecDepth 100000 in
theorem te_mo_readNumber : ∀ q ∈ tb_mo_readNumber, gk_eok (gk_M 211).2.1 q = true := by decide +kernel
set_option maxRecDepth 100000 in
theorem tx_mo_readNumber (oG : List (Nat × gk_G)) : ∀ q ∈ tb_mo_readNumber, gk_xok "DryPlacesModel" pl_mo (1, sw_mo_readNumber, oG) q := by
  have h : tb_mo_readNumber.all (fun q => gk_xokb "DryPlacesModel" pl_mo sw_mo_readNumber q) = true := by decide +kernel
  exact fun q hq => gk_xok_of (List.all_eq_true.mp h q hq)
theorem ok_mo_readNumber (oG : List (Nat × gk_G)) : gk_ok gk_M 211 tb_mo_readNumber pl_mo (1, sw_mo_readNumber, oG) := ⟨te_mo_readNumber, pk_mo, tx_mo_readNumber oG, rfl⟩
def tb_mo_readMark : gk_T := [(0, .aload_n 0, 1, 0), (1, .iload_n 1, 2, 0), (2, .invokevirtual 215, 5, 0), (5, .ifCond .ne 9, 8, 14), (8, .aload_n 0, 9, 0), (9, .iconst 1, 10, 0), (10, .invokevirtual 201, 13, 0), (13, .ireturn, 14, 0), (14, .aload_n 0, 15, 0), (15, .invokevirtual 208, 18, 0), (18, .iconst 0, 19, 0), (19, .ireturn, 20, 0)]
def sw_mo_readMark : List (Nat × List (Int32 × Nat) × Nat) := []
set_option maxRecDepth 100000 in
theorem te_mo_readMark : ∀ q ∈ tb_mo_readMark, gk_eok (gk_M 212).2.1 q = true := by decide +kernel
set_option maxRecDepth 100000 in
theorem tx_mo_readMark (oG : List (Nat × gk_G)) : ∀ q ∈ tb_mo_readMark, gk_xok "DryPlacesModel" pl_mo (1, sw_mo_readMark, oG) q := by
  have h : tb_mo_readMark.all (fun q => gk_xokb "DryPlacesModel" pl_mo sw_mo_readMark q) = true := by decide +kernel
  exact fun q hq => gk_xok_of (List.all_eq_true.mp h q hq)
theorem ok_mo_readMark (oG : List (Nat × gk_G)) : gk_ok gk_M 212 tb_mo_readMark pl_mo (1, sw_mo_readMark, oG) := ⟨te_mo_readMark, pk_mo, tx_mo_readMark oG, rfl⟩
def tb_mo_readTold : gk_T := [(0, .aload_n 0, 1, 0), (1, .iload_n 1, 2, 0), (2, .invokevirtual 230, 5, 0), (5, .ifCond .ne 9, 8, 14), (8, .aload_n 0, 9, 0), (9, .iconst 1, 10, 0), (10, .invokevirtual 201, 13, 0), (13, .ireturn, 14, 0), (14, .aload_n 0, 15, 0), (15, .invokevirtual 208, 18, 0), (18, .aload_n 0, 19, 0), (19, .iload_n 2, 20, 0), (20, .iload_n 3, 21, 0), (21, .invokevirtual 252, 24, 0), (24, .ireturn, 25, 0)]
def sw_mo_readTold : List (Nat × List (Int32 × Nat) × Nat) := []
set_option maxRecDepth 100000 in
theorem te_mo_readTold : ∀ q ∈ tb_mo_readTold, gk_eok (gk_M 213).2.1 q = true := by decide +kernel
set_option maxRecDepth 100000 in
theorem tx_mo_readTold (oG : List (Nat × gk_G)) : ∀ q ∈ tb_mo_readTold, gk_xok "DryPlacesModel" pl_mo (1, sw_mo_readTold, oG) q := by
  have h : tb_mo_readTold.all (fun q => gk_xokb "DryPlacesModel" pl_mo sw_mo_readTold q) = true := by decide +kernel
  exact fun q hq => gk_xok_of (List.all_eq_true.mp h q hq)
theorem ok_mo_readTold (oG : List (Nat × gk_G)) : gk_ok gk_M 213 tb_mo_readTold pl_mo (1, sw_mo_readTold, oG) := ⟨te_mo_readTold, pk_mo, tx_mo_readTold oG, rfl⟩
def tb_mo_readOther : gk_T := [(0, .aload_n 0, 1, 0), (1, .iload_n 1, 2, 0), (2, .invokevirtual 230, 5, 0), (5, .ifCond .ne 9, 8, 14), (8, .aload_n 0, 9, 0), (9, .iconst 1, 10, 0), (10, .invokevirtual 201, 13, 0), (13, .ireturn, 14, 0), (14, .aload_n 0, 15, 0), (15, .invokevirtual 208, 18, 0), (18, .aload_n 0, 19, 0), (19, .getfield 171, 22, 0), (22, .iconst 3, 23, 0), (23, .if_icmp .ne 17, 26, 40), (26, .aload_n 0, 27, 0), (27, .getfield 174, 30, 0), (30, .iload_n 2, 31, 0), (31, .if_icmp .ne 9, 34, 40), (34, .aload_n 0, 35, 0), (35, .iconst 2, 36, 0), (36, .invokevirtual 201, 39, 0), (39, .ireturn, 40, 0), (40, .aload_n 0, 41, 0), (41, .iconst 0, 42, 0), (42, .iload_n 3, 43, 0), (43, .invokevirtual 252, 46, 0), (46, .ireturn, 47, 0)]
def sw_mo_readOther : List (Nat × List (Int32 × Nat) × Nat) := []
set_option maxRecDepth 100000 in
theorem te_mo_readOther : ∀ q ∈ tb_mo_readOther, gk_eok (gk_M 214).2.1 q = true := by decide +kernel
set_option maxRecDepth 100000 in
theorem tx_mo_readOther (oG : List (Nat × gk_G)) : ∀ q ∈ tb_mo_readOther, gk_xok "DryPlacesModel" pl_mo (1, sw_mo_readOther, oG) q := by
  have h : tb_mo_readOther.all (fun q => gk_xokb "DryPlacesModel" pl_mo sw_mo_readOther q) = true := by decide +kernel
  exact fun q hq => gk_xok_of (List.all_eq_true.mp h q hq)
theorem ok_mo_readOther (oG : List (Nat × gk_G)) : gk_ok gk_M 214 tb_mo_readOther pl_mo (1, sw_mo_readOther, oG) := ⟨te_mo_readOther, pk_mo, tx_mo_readOther oG, rfl⟩
def tb_mo_takesPassage : gk_T := [(0, .aload_n 0, 1, 0), (1, .getfield 59, 4, 0), (4, .iload_n 1, 5, 0), (5, .iaload, 6, 0), (6, .ifCond .eq 13, 9, 19), (9, .iload_n 2, 10, 0), (10, .aload_n 0, 11, 0), (11, .getfield 59, 14, 0), (14, .iload_n 1, 15, 0), (15, .iaload, 16, 0), (16, .if_icmp .ge 10, 19, 26), (19, .aload_n 0, 20, 0), (20, .getfield 59, 23, 0), (23, .iload_n 1, 24, 0), (24, .iload_n 2, 25, 0), (25, .iastore, 26, 0), (26, .return_, 27, 0)]
def sw_mo_takesPassage : List (Nat × List (Int32 × Nat) × Nat) := []
set_option maxRecDepth 100000 in
theorem te_mo_takesPassage : ∀ q ∈ tb_mo_takesPassage, gk_eok (gk_M 215).2.1 q = true := by decide +kernel
set_option maxRecDepth 100000 in
theorem tx_mo_takesPassage (oG : List (Nat × gk_G)) : ∀ q ∈ tb_mo_takesPassage, gk_xok "DryPlacesModel" pl_mo (0, sw_mo_takesPassage, oG) q := by
  have h : tb_mo_takesPassage.all (fun q => gk_xokb "DryPlacesModel" pl_mo sw_mo_takesPassage q) = true := by decide +kernel
  exact fun q hq => gk_xok_of (List.all_eq_true.mp h q hq)
theorem ok_mo_takesPassage (oG : List (Nat × gk_G)) : gk_ok gk_M 215 tb_mo_takesPassage pl_mo (0, sw_mo_takesPassage, oG) := ⟨te_mo_takesPassage, pk_mo, tx_mo_takesPassage oG, rfl⟩
def tb_mo_readPassage : gk_T := [(0, .aload_n 0, 1, 0), (1, .bipush 11, 3, 0), (3, .iconst 0, 4, 0), (4, .iconst 5, 5, 0), (5, .invokevirtual 255, 8, 0), (8, .istore_n 1, 9, 0), (9, .iload_n 1, 10, 0), (10, .iconst (-1), 11, 0), (11, .if_icmp .ne 5, 14, 16), (14, .iconst (-1), 15, 0), (15, .ireturn, 16, 0), (16, .aload_n 0, 17, 0), (17, .bipush 11, 19, 0), (19, .iload_n 1, 20, 0), (20, .iconst 5, 21, 0), (21, .invokevirtual 259, 24, 0), (24, .istore_n 2, 25, 0), (25, .iload_n 2, 26, 0), (26, .iconst (-1), 27, 0), (27, .if_icmp .ne 5, 30, 32), (30, .iconst (-1), 31, 0), (31, .ireturn, 32, 0), (32, .aload_n 0, 33, 0), (33, .bipush 16, 35, 0), (35, .iconst 1, 36, 0), (36, .bipush 99, 38, 0), (38, .invokevirtual 255, 41, 0), (41, .istore_n 3, 42, 0), (42, .iload_n 3, 43, 0), (43, .iconst (-1), 44, 0), (44, .if_icmp .ne 5, 47, 49), (47, .iconst (-1), 48, 0), (48, .ireturn, 49, 0), (49, .aload_n 0, 50, 0), (50, .bipush 36, 52, 0), (52, .bipush 6, 54, 0), (54, .iload_n 1, 55, 0), (55, .imul, 56, 0), (56, .iadd, 57, 0), (57, .iload_n 2, 58, 0), (58, .iadd, 59, 0), (59, .iload_n 3, 60, 0), (60, .invokevirtual 262, 63, 0), (63, .aload_n 0, 64, 0), (64, .bipush 36, 66, 0), (66, .bipush 6, 68, 0), (68, .iload_n 2, 69, 0), (69, .imul, 70, 0), (70, .iadd, 71, 0), (71, .iload_n 1, 72, 0), (72, .iadd, 73, 0), (73, .iload_n 3, 74, 0), (74, .invokevirtual 262, 77, 0), (77, .aload_n 0, 78, 0), (78, .bipush 59, 80, 0), (80, .invokevirtual 265, 83, 0), (83, .ireturn, 84, 0)]
def sw_mo_readPassage : List (Nat × List (Int32 × Nat) × Nat) := []
set_option maxRecDepth 100000 in
theorem te_mo_readPassage : ∀ q ∈ tb_mo_readPassage, gk_eok (gk_M 216).2.1 q = true := by decide +kernel
set_option maxRecDepth 100000 in
theorem tx_mo_readPassage (oG : List (Nat × gk_G)) : ∀ q ∈ tb_mo_readPassage, gk_xok "DryPlacesModel" pl_mo (1, sw_mo_readPassage, oG) q := by
  have h : tb_mo_readPassage.all (fun q => gk_xokb "DryPlacesModel" pl_mo sw_mo_readPassage q) = true := by decide +kernel
  exact fun q hq => gk_xok_of (List.all_eq_true.mp h q hq)
theorem ok_mo_readPassage (oG : List (Nat × gk_G)) : gk_ok gk_M 216 tb_mo_readPassage pl_mo (1, sw_mo_readPassage, oG) := ⟨te_mo_readPassage, pk_mo, tx_mo_readPassage oG, rfl⟩
def tb_mo_readPassages : gk_T := [(0, .iconst 0, 1, 0), (1, .istore_n 1, 2, 0), (2, .iload_n 1, 3, 0), (3, .bipush 36, 5, 0), (5, .if_icmp .ge 19, 8, 24), (8, .aload_n 0, 9, 0), (9, .getfield 59, 12, 0), (12, .bipush 36, 14, 0), (14, .iload_n 1, 15, 0), (15, .iadd, 16, 0), (16, .iconst 0, 17, 0), (17, .iastore, 18, 0), (18, .iinc 1 1, 21, 0), (21, .goto (-19), 24, 2), (24, .iconst 0, 25, 0), (25, .istore_n 1, 26, 0), (26, .aload_n 0, 27, 0), (27, .bipush 11, 29, 0), (29, .invokevirtual 230, 32, 0), (32, .ifCond .eq 32, 35, 64), (35, .iload_n 1, 36, 0), (36, .bipush 16, 38, 0), (38, .if_icmp .ne 9, 41, 47), (41, .aload_n 0, 42, 0), (42, .iconst 3, 43, 0), (43, .invokevirtual 201, 46, 0), (46, .ireturn, 47, 0), (47, .aload_n 0, 48, 0), (48, .invokevirtual 268, 51, 0), (51, .iconst (-1), 52, 0), (52, .if_icmp .ne 5, 55, 57), (55, .iconst (-1), 56, 0), (56, .ireturn, 57, 0), (57, .iload_n 1, 58, 0), (58, .iconst 1, 59, 0), (59, .iadd, 60, 0), (60, .istore_n 1, 61, 0), (61, .goto (-35), 64, 26), (64, .aload_n 0, 65, 0), (65, .getfield 171, 68, 0), (68, .ifCond .ne 7, 71, 75), (71, .iload_n 1, 72, 0), (72, .goto 8, 75, 80), (75, .aload_n 0, 76, 0), (76, .iconst 1, 77, 0), (77, .invokevirtual 201, 80, 0), (80, .ireturn, 81, 0)]
def sw_mo_readPassages : List (Nat × List (Int32 × Nat) × Nat) := []
set_option maxRecDepth 100000 in
theorem te_mo_readPassages : ∀ q ∈ tb_mo_readPassages, gk_eok (gk_M 217).2.1 q = true := by decide +kernel
set_option maxRecDepth 100000 in
theorem tx_mo_readPassages (oG : List (Nat × gk_G)) : ∀ q ∈ tb_mo_readPassages, gk_xok "DryPlacesModel" pl_mo (1, sw_mo_readPassages, oG) q := by
  have h : tb_mo_readPassages.all (fun q => gk_xokb "DryPlacesModel" pl_mo sw_mo_readPassages q) = true := by decide +kernel
  exact fun q hq => gk_xok_of (List.all_eq_true.mp h q hq)
theorem ok_mo_readPassages (oG : List (Nat × gk_G)) : gk_ok gk_M 217 tb_mo_readPassages pl_mo (1, sw_mo_readPassages, oG) := ⟨te_mo_readPassages, pk_mo, tx_mo_readPassages oG, rfl⟩
def tb_mo_kindOfDeed : gk_T := [(0, .aload_n 0, 1, 0), (1, .getfield 171, 4, 0), (4, .iconst 2, 5, 0), (5, .if_icmp .ne 26, 8, 31), (8, .aload_n 0, 9, 0), (9, .aload_n 0, 10, 0), (10, .getfield 174, 13, 0), (13, .bipush 18, 15, 0), (15, .bipush 20, 17, 0), (17, .invokevirtual 125, 20, 0), (20, .ifCond .eq 11, 23, 31), (23, .aload_n 0, 24, 0), (24, .getfield 174, 27, 0), (27, .bipush 18, 29, 0), (29, .isub, 30, 0), (30, .ireturn, 31, 0), (31, .aload_n 0, 32, 0), (32, .bipush 10, 34, 0), (34, .invokevirtual 230, 37, 0), (37, .ifCond .eq 7, 40, 44), (40, .iconst 3, 41, 0), (41, .goto 17, 44, 58), (44, .aload_n 0, 45, 0), (45, .bipush 22, 47, 0), (47, .invokevirtual 230, 50, 0), (50, .ifCond .eq 7, 53, 57), (53, .iconst 4, 54, 0), (54, .goto 4, 57, 58), (57, .iconst (-1), 58, 0), (58, .ireturn, 59, 0)]
def sw_mo_kindOfDeed : List (Nat × List (Int32 × Nat) × Nat) := []
set_option maxRecDepth 100000 in
theorem te_mo_kindOfDeed : ∀ q ∈ tb_mo_kindOfDeed, gk_eok (gk_M 218).2.1 q = true := by decide +kernel
set_option maxRecDepth 100000 in
theorem tx_mo_kindOfDeed (oG : List (Nat × gk_G)) : ∀ q ∈ tb_mo_kindOfDeed, gk_xok "DryPlacesModel" pl_mo (1, sw_mo_kindOfDeed, oG) q := by
  have h : tb_mo_kindOfDeed.all (fun q => gk_xokb "DryPlacesModel" pl_mo sw_mo_kindOfDeed q) = true := by decide +kernel
  exact fun q hq => gk_xok_of (List.all_eq_true.mp h q hq)
theorem ok_mo_kindOfDeed (oG : List (Nat × gk_G)) : gk_ok gk_M 218 tb_mo_kindOfDeed pl_mo (1, sw_mo_kindOfDeed, oG) := ⟨te_mo_kindOfDeed, pk_mo, tx_mo_kindOfDeed oG, rfl⟩
def tb_mo_readDeedMore : gk_T := [(0, .iload_n 1, 1, 0), (1, .iconst 2, 2, 0), (2, .if_icmp .ne 12, 5, 14), (5, .aload_n 0, 6, 0), (6, .bipush 21, 8, 0), (8, .iconst 0, 9, 0), (9, .iconst 5, 10, 0), (10, .invokevirtual 255, 13, 0), (13, .ireturn, 14, 0), (14, .iload_n 1, 15, 0), (15, .iconst 3, 16, 0), (16, .if_icmp .ne 13, 19, 29), (19, .aload_n 0, 20, 0), (20, .iconst 0, 21, 0), (21, .bipush 9, 23, 0), (23, .invokevirtual 252, 26, 0), (26, .goto 19, 29, 45), (29, .iload_n 1, 30, 0), (30, .iconst 4, 31, 0), (31, .if_icmp .ne 13, 34, 44), (34, .aload_n 0, 35, 0), (35, .iconst 0, 36, 0), (36, .bipush 7, 38, 0), (38, .invokevirtual 252, 41, 0), (41, .goto 4, 44, 45), (44, .iconst 0, 45, 0), (45, .ireturn, 46, 0)]
def sw_mo_readDeedMore : List (Nat × List (Int32 × Nat) × Nat) := []
set_option maxRecDepth 100000 in
theorem te_mo_readDeedMore : ∀ q ∈ tb_mo_readDeedMore, gk_eok (gk_M 219).2.1 q = true := by decide +kernel
set_option maxRecDepth 100000 in
theorem tx_mo_readDeedMore (oG : List (Nat × gk_G)) : ∀ q ∈ tb_mo_readDeedMore, gk_xok "DryPlacesModel" pl_mo (1, sw_mo_readDeedMore, oG) q := by
  have h : tb_mo_readDeedMore.all (fun q => gk_xokb "DryPlacesModel" pl_mo sw_mo_readDeedMore q) = true := by decide +kernel
  exact fun q hq => gk_xok_of (List.all_eq_true.mp h q hq)
theorem ok_mo_readDeedMore (oG : List (Nat × gk_G)) : gk_ok gk_M 219 tb_mo_readDeedMore pl_mo (1, sw_mo_readDeedMore, oG) := ⟨te_mo_readDeedMore, pk_mo, tx_mo_readDeedMore oG, rfl⟩
def tb_mo_readDeed : gk_T := [(0, .aload_n 0, 1, 0), (1, .getfield 62, 4, 0), (4, .iload_n 1, 5, 0), (5, .aload_n 0, 6, 0), (6, .bipush 17, 8, 0), (8, .iconst 0, 9, 0), (9, .sipush 999, 12, 0), (12, .invokevirtual 255, 15, 0), (15, .iastore, 16, 0), (16, .aload_n 0, 17, 0), (17, .getfield 62, 20, 0), (20, .iload_n 1, 21, 0), (21, .iaload, 22, 0), (22, .iconst (-1), 23, 0), (23, .if_icmp .ne 5, 26, 28), (26, .iconst (-1), 27, 0), (27, .ireturn, 28, 0), (28, .aload_n 0, 29, 0), (29, .invokevirtual 271, 32, 0), (32, .istore_n 2, 33, 0), (33, .iload_n 2, 34, 0), (34, .iconst (-1), 35, 0), (35, .if_icmp .ne 9, 38, 44), (38, .aload_n 0, 39, 0), (39, .iconst 1, 40, 0), (40, .invokevirtual 201, 43, 0), (43, .ireturn, 44, 0), (44, .aload_n 0, 45, 0), (45, .invokevirtual 208, 48, 0), (48, .aload_n 0, 49, 0), (49, .getfield 62, 52, 0), (52, .iload_n 1, 53, 0), (53, .iconst 1, 54, 0), (54, .iadd, 55, 0), (55, .iload_n 2, 56, 0), (56, .iastore, 57, 0), (57, .aload_n 0, 58, 0), (58, .getfield 62, 61, 0), (61, .iload_n 1, 62, 0), (62, .iconst 2, 63, 0), (63, .iadd, 64, 0), (64, .aload_n 0, 65, 0), (65, .iconst 0, 66, 0), (66, .iload_n 2, 67, 0), (67, .iconst 3, 68, 0), (68, .if_icmp .ne 7, 71, 75), (71, .iconst 5, 72, 0), (72, .goto 9, 75, 81), (75, .aload_n 0, 76, 0), (76, .getfield 122, 79, 0), (79, .iconst 1, 80, 0), (80, .isub, 81, 0), (81, .invokevirtual 252, 84, 0), (84, .iastore, 85, 0), (85, .aload_n 0, 86, 0), (86, .getfield 62, 89, 0), (89, .iload_n 1, 90, 0), (90, .iconst 2, 91, 0), (91, .iadd, 92, 0), (92, .iaload, 93, 0), (93, .iconst (-1), 94, 0), (94, .if_icmp .ne 5, 97, 99), (97, .iconst (-1), 98, 0), (98, .ireturn, 99, 0), (99, .aload_n 0, 100, 0), (100, .getfield 62, 103, 0), (103, .iload_n 1, 104, 0), (104, .iconst 3, 105, 0), (105, .iadd, 106, 0), (106, .aload_n 0, 107, 0), (107, .iload_n 2, 108, 0), (108, .invokevirtual 274, 111, 0), (111, .iastore, 112, 0), (112, .aload_n 0, 113, 0), (113, .getfield 62, 116, 0), (116, .iload_n 1, 117, 0), (117, .iconst 3, 118, 0), (118, .iadd, 119, 0), (119, .iaload, 120, 0), (120, .iconst (-1), 121, 0), (121, .if_icmp .ne 7, 124, 128), (124, .iconst (-1), 125, 0), (125, .goto 9, 128, 134), (128, .aload_n 0, 129, 0), (129, .bipush 59, 131, 0), (131, .invokevirtual 265, 134, 0), (134, .ireturn, 135, 0)]
def sw_mo_readDeed : List (Nat × List (Int32 × Nat) × Nat) := []
set_option maxRecDepth 100000 in
theorem te_mo_readDeed : ∀ q ∈ tb_mo_readDeed, gk_eok (gk_M 220).2.1 q = true := by decide +kernel
set_option maxRecDepth 100000 in
theorem tx_mo_readDeed (oG : List (Nat × gk_G)) : ∀ q ∈ tb_mo_readDeed, gk_xok "DryPlacesModel" pl_mo (1, sw_mo_readDeed, oG) q := by
  have h : tb_mo_readDeed.all (fun q => gk_xokb "DryPlacesModel" pl_mo sw_mo_readDeed q) = true := by decide +kernel
  exact fun q hq => gk_xok_of (List.all_eq_true.mp h q hq)
theorem ok_mo_readDeed (oG : List (Nat × gk_G)) : gk_ok gk_M 220 tb_mo_readDeed pl_mo (1, sw_mo_readDeed, oG) := ⟨te_mo_readDeed, pk_mo, tx_mo_readDeed oG, rfl⟩
def tb_mo_readDiary : gk_T := [(0, .iconst 0, 1, 0), (1, .istore_n 1, 2, 0), (2, .aload_n 0, 3, 0), (3, .bipush 17, 5, 0), (5, .invokevirtual 230, 8, 0), (8, .ifCond .eq 38, 11, 46), (11, .iload_n 1, 12, 0), (12, .bipush 16, 14, 0), (14, .if_icmp .ne 9, 17, 23), (17, .aload_n 0, 18, 0), (18, .iconst 3, 19, 0), (19, .invokevirtual 201, 22, 0), (22, .ireturn, 23, 0), (23, .aload_n 0, 24, 0), (24, .bipush 64, 26, 0), (26, .iconst 4, 27, 0), (27, .iload_n 1, 28, 0), (28, .imul, 29, 0), (29, .iadd, 30, 0), (30, .invokevirtual 277, 33, 0), (33, .iconst (-1), 34, 0), (34, .if_icmp .ne 5, 37, 39), (37, .iconst (-1), 38, 0), (38, .ireturn, 39, 0), (39, .iload_n 1, 40, 0), (40, .iconst 1, 41, 0), (41, .iadd, 42, 0), (42, .istore_n 1, 43, 0), (43, .goto (-41), 46, 2), (46, .aload_n 0, 47, 0), (47, .getfield 171, 50, 0), (50, .ifCond .ne 7, 53, 57), (53, .iload_n 1, 54, 0), (54, .goto 8, 57, 62), (57, .aload_n 0, 58, 0), (58, .iconst 1, 59, 0), (59, .invokevirtual 201, 62, 0), (62, .ireturn, 63, 0)]
def sw_mo_readDiary : List (Nat × List (Int32 × Nat) × Nat) := []
set_option maxRecDepth 100000 in
theorem te_mo_readDiary : ∀ q ∈ tb_mo_readDiary, gk_eok (gk_M 221).2.1 q = true := by decide +kernel
set_option maxRecDepth 100000 in
theorem tx_mo_readDiary (oG : List (Nat × gk_G)) : ∀ q ∈ tb_mo_readDiary, gk_xok "DryPlacesModel" pl_mo (1, sw_mo_readDiary, oG) q := by
  have h : tb_mo_readDiary.all (fun q => gk_xokb "DryPlacesModel" pl_mo sw_mo_readDiary q) = true := by decide +kernel
  exact fun q hq => gk_xok_of (List.all_eq_true.mp h q hq)
theorem ok_mo_readDiary (oG : List (Nat × gk_G)) : gk_ok gk_M 221 tb_mo_readDiary pl_mo (1, sw_mo_readDiary, oG) := ⟨te_mo_readDiary, pk_mo, tx_mo_readDiary oG, rfl⟩
def tb_mo_readVouch : gk_T := [(0, .aload_n 0, 1, 0), (1, .bipush 23, 3, 0), (3, .iconst 0, 4, 0), (4, .aload_n 0, 5, 0), (5, .getfield 122, 8, 0), (8, .iconst 1, 9, 0), (9, .isub, 10, 0), (10, .invokevirtual 255, 13, 0), (13, .istore_n 1, 14, 0), (14, .iload_n 1, 15, 0), (15, .iconst (-1), 16, 0), (16, .if_icmp .ne 5, 19, 21), (19, .iconst (-1), 20, 0), (20, .ireturn, 21, 0), (21, .aload_n 0, 22, 0), (22, .bipush 24, 24, 0), (24, .iload_n 1, 25, 0), (25, .aload_n 0, 26, 0), (26, .getfield 122, 29, 0), (29, .iconst 1, 30, 0), (30, .isub, 31, 0), (31, .invokevirtual 259, 34, 0), (34, .istore_n 2, 35, 0), (35, .iload_n 2, 36, 0), (36, .iconst (-1), 37, 0), (37, .if_icmp .ne 5, 40, 42), (40, .iconst (-1), 41, 0), (41, .ireturn, 42, 0), (42, .aload_n 0, 43, 0), (43, .getfield 65, 46, 0), (46, .bipush 10, 48, 0), (48, .iload_n 1, 49, 0), (49, .iadd, 50, 0), (50, .aload_n 0, 51, 0), (51, .getfield 65, 54, 0), (54, .bipush 10, 56, 0), (56, .iload_n 1, 57, 0), (57, .iadd, 58, 0), (58, .iaload, 59, 0), (59, .iconst 1, 60, 0), (60, .iload_n 2, 61, 0), (61, .ishl, 62, 0), (62, .ior, 63, 0), (63, .iastore, 64, 0), (64, .aload_n 0, 65, 0), (65, .bipush 59, 67, 0), (67, .invokevirtual 265, 70, 0), (70, .ireturn, 71, 0)]
def sw_mo_readVouch : List (Nat × List (Int32 × Nat) × Nat) := []
set_option maxRecDepth 100000 in
theorem te_mo_readVouch : ∀ q ∈ tb_mo_readVouch, gk_eok (gk_M 222).2.1 q = true := by decide +kernel
set_option maxRecDepth 100000 in
theorem tx_mo_readVouch (oG : List (Nat × gk_G)) : ∀ q ∈ tb_mo_readVouch, gk_xok "DryPlacesModel" pl_mo (1, sw_mo_readVouch, oG) q := by
  have h : tb_mo_readVouch.all (fun q => gk_xokb "DryPlacesModel" pl_mo sw_mo_readVouch q) = true := by decide +kernel
  exact fun q hq => gk_xok_of (List.all_eq_true.mp h q hq)
theorem ok_mo_readVouch (oG : List (Nat × gk_G)) : gk_ok gk_M 222 tb_mo_readVouch pl_mo (1, sw_mo_readVouch, oG) := ⟨te_mo_readVouch, pk_mo, tx_mo_readVouch oG, rfl⟩
def tb_mo_readVouches : gk_T := [(0, .iconst 0, 1, 0), (1, .istore_n 1, 2, 0), (2, .iload_n 1, 3, 0), (3, .bipush 10, 5, 0), (5, .if_icmp .ge 19, 8, 24), (8, .aload_n 0, 9, 0), (9, .getfield 65, 12, 0), (12, .bipush 10, 14, 0), (14, .iload_n 1, 15, 0), (15, .iadd, 16, 0), (16, .iconst 0, 17, 0), (17, .iastore, 18, 0), (18, .iinc 1 1, 21, 0), (21, .goto (-19), 24, 2), (24, .iconst 0, 25, 0), (25, .istore_n 1, 26, 0), (26, .aload_n 0, 27, 0), (27, .bipush 23, 29, 0), (29, .invokevirtual 230, 32, 0), (32, .ifCond .eq 32, 35, 64), (35, .iload_n 1, 36, 0), (36, .bipush 16, 38, 0), (38, .if_icmp .ne 9, 41, 47), (41, .aload_n 0, 42, 0), (42, .iconst 3, 43, 0), (43, .invokevirtual 201, 46, 0), (46, .ireturn, 47, 0), (47, .aload_n 0, 48, 0), (48, .invokevirtual 280, 51, 0), (51, .iconst (-1), 52, 0), (52, .if_icmp .ne 5, 55, 57), (55, .iconst (-1), 56, 0), (56, .ireturn, 57, 0), (57, .iload_n 1, 58, 0), (58, .iconst 1, 59, 0), (59, .iadd, 60, 0), (60, .istore_n 1, 61, 0), (61, .goto (-35), 64, 26), (64, .aload_n 0, 65, 0), (65, .getfield 171, 68, 0), (68, .ifCond .ne 7, 71, 75), (71, .iload_n 1, 72, 0), (72, .goto 8, 75, 80), (75, .aload_n 0, 76, 0), (76, .iconst 1, 77, 0), (77, .invokevirtual 201, 80, 0), (80, .ireturn, 81, 0)]
def sw_mo_readVouches : List (Nat × List (Int32 × Nat) × Nat) := []
set_option maxRecDepth 100000 in
theorem te_mo_readVouches : ∀ q ∈ tb_mo_readVouches, gk_eok (gk_M 223).2.1 q = true := by decide +kernel
set_option maxRecDepth 100000 in
theorem tx_mo_readVouches (oG : List (Nat × gk_G)) : ∀ q ∈ tb_mo_readVouches, gk_xok "DryPlacesModel" pl_mo (1, sw_mo_readVouches, oG) q := by
  have h : tb_mo_readVouches.all (fun q => gk_xokb "DryPlacesModel" pl_mo sw_mo_readVouches q) = true := by decide +kernel
  exact fun q hq => gk_xok_of (List.all_eq_true.mp h q hq)
theorem ok_mo_readVouches (oG : List (Nat × gk_G)) : gk_ok gk_M 223 tb_mo_readVouches pl_mo (1, sw_mo_readVouches, oG) := ⟨te_mo_readVouches, pk_mo, tx_mo_readVouches oG, rfl⟩
def tb_mo_readsText : gk_T := [(0, .aload_n 0, 1, 0), (1, .iconst 0, 2, 0), (2, .putfield 249, 5, 0), (5, .aload_n 0, 6, 0), (6, .invokevirtual 208, 9, 0), (9, .iload_n 1, 10, 0), (10, .iconst 1, 11, 0), (11, .if_icmp .ne 8, 14, 19), (14, .aload_n 0, 15, 0), (15, .invokevirtual 283, 18, 0), (18, .ireturn, 19, 0), (19, .iload_n 1, 20, 0), (20, .iconst 2, 21, 0), (21, .if_icmp .ne 8, 24, 29), (24, .aload_n 0, 25, 0), (25, .invokevirtual 286, 28, 0), (28, .ireturn, 29, 0), (29, .iload_n 1, 30, 0), (30, .iconst 3, 31, 0), (31, .if_icmp .ne 10, 34, 41), (34, .aload_n 0, 35, 0), (35, .invokevirtual 289, 38, 0), (38, .goto 7, 41, 45), (41, .aload_n 0, 42, 0), (42, .invokevirtual 292, 45, 0), (45, .ireturn, 46, 0)]
def sw_mo_readsText : List (Nat × List (Int32 × Nat) × Nat) := []
set_option maxRecDepth 100000 in
theorem te_mo_readsText : ∀ q ∈ tb_mo_readsText, gk_eok (gk_M 224).2.1 q = true := by decide +kernel
set_option maxRecDepth 100000 in
theorem tx_mo_readsText (oG : List (Nat × gk_G)) : ∀ q ∈ tb_mo_readsText, gk_xok "DryPlacesModel" pl_mo (1, sw_mo_readsText, oG) q := by
  have h : tb_mo_readsText.all (fun q => gk_xokb "DryPlacesModel" pl_mo sw_mo_readsText q) = true := by decide +kernel
  exact fun q hq => gk_xok_of (List.all_eq_true.mp h q hq)
theorem ok_mo_readsText (oG : List (Nat × gk_G)) : gk_ok gk_M 224 tb_mo_readsText pl_mo (1, sw_mo_readsText, oG) := ⟨te_mo_readsText, pk_mo, tx_mo_readsText oG, rfl⟩
def tb_mo_takesOther : gk_T := [(0, .iload_n 1, 1, 0), (1, .iconst 1, 2, 0), (2, .if_icmp .ne 40, 5, 42), (5, .iconst 0, 6, 0), (6, .istore_n 3, 7, 0), (7, .iload_n 3, 8, 0), (8, .bipush 36, 10, 0), (10, .if_icmp .ge 24, 13, 34), (13, .aload_n 0, 14, 0), (14, .getfield 59, 17, 0), (17, .iload_n 3, 18, 0), (18, .aload_n 0, 19, 0), (19, .getfield 59, 22, 0), (22, .bipush 36, 24, 0), (24, .iload_n 3, 25, 0), (25, .iadd, 26, 0), (26, .iaload, 27, 0), (27, .iastore, 28, 0), (28, .iinc 3 1, 31, 0), (31, .goto (-24), 34, 7), (34, .aload_n 0, 35, 0), (35, .iload_n 2, 36, 0), (36, .putfield 295, 39, 0), (39, .goto 85, 42, 124), (42, .iload_n 1, 43, 0), (43, .iconst 2, 44, 0), (44, .if_icmp .ne 46, 47, 90), (47, .iconst 0, 48, 0), (48, .istore_n 3, 49, 0), (49, .iload_n 3, 50, 0), (50, .iconst 4, 51, 0), (51, .iload_n 2, 52, 0), (52, .imul, 53, 0), (53, .if_icmp .ge 24, 56, 77), (56, .aload_n 0, 57, 0), (57, .getfield 62, 60, 0), (60, .iload_n 3, 61, 0), (61, .aload_n 0, 62, 0), (62, .getfield 62, 65, 0), (65, .bipush 64, 67, 0), (67, .iload_n 3, 68, 0), (68, .iadd, 69, 0), (69, .iaload, 70, 0), (70, .iastore, 71, 0), (71, .iinc 3 1, 74, 0), (74, .goto (-25), 77, 49), (77, .aload_n 0, 78, 0), (78, .iload_n 2, 79, 0), (79, .putfield 298, 82, 0), (82, .aload_n 0, 83, 0), (83, .iconst 0, 84, 0), (84, .putfield 113, 87, 0), (87, .goto 37, 90, 124), (90, .iconst 0, 91, 0), (91, .istore_n 3, 92, 0), (92, .iload_n 3, 93, 0), (93, .bipush 10, 95, 0), (95, .if_icmp .ge 24, 98, 119), (98, .aload_n 0, 99, 0), (99, .getfield 65, 102, 0), (102, .iload_n 3, 103, 0), (103, .aload_n 0, 104, 0), (104, .getfield 65, 107, 0), (107, .bipush 10, 109, 0), (109, .iload_n 3, 110, 0), (110, .iadd, 111, 0), (111, .iaload, 112, 0), (112, .iastore, 113, 0), (113, .iinc 3 1, 116, 0), (116, .goto (-24), 119, 92), (119, .aload_n 0, 120, 0), (120, .iload_n 2, 121, 0), (121, .putfield 301, 124, 0), (124, .return_, 125, 0)]
def sw_mo_takesOther : List (Nat × List (Int32 × Nat) × Nat) := []
set_option maxRecDepth 100000 in
theorem te_mo_takesOther : ∀ q ∈ tb_mo_takesOther, gk_eok (gk_M 225).2.1 q = true := by decide +kernel
set_option maxRecDepth 100000 in
theorem tx_mo_takesOther (oG : List (Nat × gk_G)) : ∀ q ∈ tb_mo_takesOther, gk_xok "DryPlacesModel" pl_mo (0, sw_mo_takesOther, oG) q := by
  have h : tb_mo_takesOther.all (fun q => gk_xokb "DryPlacesModel" pl_mo sw_mo_takesOther q) = true := by decide +kernel
  exact fun q hq => gk_xok_of (List.all_eq_true.mp h q hq)
theorem ok_mo_takesOther (oG : List (Nat × gk_G)) : gk_ok gk_M 225 tb_mo_takesOther pl_mo (0, sw_mo_takesOther, oG) := ⟨te_mo_takesOther, pk_mo, tx_mo_takesOther oG, rfl⟩
def tb_mo_text : gk_T := [(0, .aload_n 0, 1, 0), (1, .iconst 0, 2, 0), (2, .putfield 110, 5, 0), (5, .aload_n 0, 6, 0), (6, .iconst 0, 7, 0), (7, .putfield 304, 10, 0), (10, .aload_n 0, 11, 0), (11, .iconst (-1), 12, 0), (12, .putfield 55, 15, 0), (15, .aload_n 0, 16, 0), (16, .iconst 0, 17, 0), (17, .putfield 162, 20, 0), (20, .aload_n 0, 21, 0), (21, .iconst 0, 22, 0), (22, .putfield 195, 25, 0), (25, .aload_n 0, 26, 0), (26, .iconst 0, 27, 0), (27, .putfield 227, 30, 0), (30, .iconst (-1), 31, 0), (31, .istore_n 2, 32, 0), (32, .aload_n 0, 33, 0), (33, .iload_n 1, 34, 0), (34, .iconst 0, 35, 0), (35, .iconst 3, 36, 0), (36, .invokevirtual 125, 39, 0), (39, .ifCond .eq 30, 42, 69), (42, .aload_n 0, 43, 0), (43, .iload_n 1, 44, 0), (44, .invokevirtual 307, 47, 0), (47, .istore_n 2, 48, 0), (48, .iload_n 2, 49, 0), (49, .iconst (-1), 50, 0), (50, .if_icmp .ne 19, 53, 69), (53, .aload_n 0, 54, 0), (54, .aload_n 0, 55, 0), (55, .getfield 189, 58, 0), (58, .putfield 304, 61, 0), (61, .aload_n 0, 62, 0), (62, .aload_n 0, 63, 0), (63, .getfield 192, 66, 0), (66, .putfield 55, 69, 0), (69, .aload_n 0, 70, 0), (70, .iconst 0, 71, 0), (71, .putfield 155, 74, 0), (74, .iload_n 2, 75, 0), (75, .iconst (-1), 76, 0), (76, .if_icmp .ne 5, 79, 81), (79, .iconst (-1), 80, 0), (80, .ireturn, 81, 0), (81, .iload_n 1, 82, 0), (82, .ifCond .ne 11, 85, 93), (85, .aload_n 0, 86, 0), (86, .iload_n 2, 87, 0), (87, .invokevirtual 310, 90, 0), (90, .goto 9, 93, 99), (93, .aload_n 0, 94, 0), (94, .iload_n 1, 95, 0), (95, .iload_n 2, 96, 0), (96, .invokevirtual 313, 99, 0), (99, .iload_n 2, 100, 0), (100, .ireturn, 101, 0)]
def sw_mo_text : List (Nat × List (Int32 × Nat) × Nat) := []
set_option maxRecDepth 100000 in
theorem te_mo_text : ∀ q ∈ tb_mo_text, gk_eok (gk_M 226).2.1 q = true := by decide +kernel
set_option maxRecDepth 100000 in
theorem tx_mo_text (oG : List (Nat × gk_G)) : ∀ q ∈ tb_mo_text, gk_xok "DryPlacesModel" pl_mo (1, sw_mo_text, oG) q := by
  have h : tb_mo_text.all (fun q => gk_xokb "DryPlacesModel" pl_mo sw_mo_text q) = true := by decide +kernel
  exact fun q hq => gk_xok_of (List.all_eq_true.mp h q hq)
theorem ok_mo_text (oG : List (Nat × gk_G)) : gk_ok gk_M 226 tb_mo_text pl_mo (1, sw_mo_text, oG) := ⟨te_mo_text, pk_mo, tx_mo_text oG, rfl⟩
def tb_mo_fault : gk_T := [(0, .aload_n 0, 1, 0), (1, .iconst 0, 2, 0), (2, .putfield 110, 5, 0), (5, .iload_n 1, 6, 0), (6, .ifCond .ne 10, 9, 16), (9, .aload_n 0, 10, 0), (10, .getfield 304, 13, 0), (13, .goto 16, 16, 29), (16, .iload_n 1, 17, 0), (17, .iconst 1, 18, 0), (18, .if_icmp .ne 10, 21, 28), (21, .aload_n 0, 22, 0), (22, .getfield 55, 25, 0), (25, .goto 4, 28, 29), (28, .iconst (-1), 29, 0), (29, .ireturn, 30, 0)]
def sw_mo_fault : List (Nat × List (Int32 × Nat) × Nat) := []
set_option maxRecDepth 100000 in
theorem te_mo_fault : ∀ q ∈ tb_mo_fault, gk_eok (gk_M 227).2.1 q = true := by decide +kernel
set_option maxRecDepth 100000 in
theorem tx_mo_fault (oG : List (Nat × gk_G)) : ∀ q ∈ tb_mo_fault, gk_xok "DryPlacesModel" pl_mo (1, sw_mo_fault, oG) q := by
  have h : tb_mo_fault.all (fun q => gk_xokb "DryPlacesModel" pl_mo sw_mo_fault q) = true := by decide +kernel
  exact fun q hq => gk_xok_of (List.all_eq_true.mp h q hq)
theorem ok_mo_fault (oG : List (Nat × gk_G)) : gk_ok gk_M 227 tb_mo_fault pl_mo (1, sw_mo_fault, oG) := ⟨te_mo_fault, pk_mo, tx_mo_fault oG, rfl⟩
def tb_mo_twoOf : gk_T := [(0, .iload_n 1, 1, 0), (1, .iconst 2, 2, 0), (2, .if_icmp .ne 7, 5, 9), (5, .iload_n 2, 6, 0), (6, .iload_n 3, 7, 0), (7, .iadd, 8, 0), (8, .ireturn, 9, 0), (9, .iload_n 1, 10, 0), (10, .iconst 3, 11, 0), (11, .if_icmp .ne 7, 14, 18), (14, .iload_n 2, 15, 0), (15, .iload_n 3, 16, 0), (16, .isub, 17, 0), (17, .ireturn, 18, 0), (18, .iload_n 1, 19, 0), (19, .iconst 4, 20, 0), (20, .if_icmp .ne 7, 23, 27), (23, .iload_n 2, 24, 0), (24, .iload_n 3, 25, 0), (25, .imul, 26, 0), (26, .ireturn, 27, 0), (27, .iload_n 1, 28, 0), (28, .iconst 5, 29, 0), (29, .if_icmp .ne 7, 32, 36), (32, .iload_n 2, 33, 0), (33, .iload_n 3, 34, 0), (34, .idiv, 35, 0), (35, .ireturn, 36, 0), (36, .iload_n 1, 37, 0), (37, .bipush 6, 39, 0), (39, .if_icmp .ne 14, 42, 53), (42, .iload_n 2, 43, 0), (43, .iload_n 3, 44, 0), (44, .if_icmp .ge 7, 47, 51), (47, .iconst 1, 48, 0), (48, .goto 4, 51, 52), (51, .iconst 0, 52, 0), (52, .ireturn, 53, 0), (53, .iload_n 1, 54, 0), (54, .bipush 7, 56, 0), (56, .if_icmp .ne 14, 59, 70), (59, .iload_n 2, 60, 0), (60, .iload_n 3, 61, 0), (61, .if_icmp .ne 7, 64, 68), (64, .iconst 1, 65, 0), (65, .goto 4, 68, 69), (68, .iconst 0, 69, 0), (69, .ireturn, 70, 0), (70, .iload_n 1, 71, 0), (71, .bipush 8, 73, 0), (73, .if_icmp .ne 14, 76, 87), (76, .iload_n 2, 77, 0), (77, .iload_n 3, 78, 0), (78, .if_icmp .le 7, 81, 85), (81, .iconst 1, 82, 0), (82, .goto 4, 85, 86), (85, .iconst 0, 86, 0), (86, .ireturn, 87, 0), (87, .iload_n 1, 88, 0), (88, .bipush 10, 90, 0), (90, .if_icmp .ne 9, 93, 99), (93, .iload_n 2, 94, 0), (94, .iload_n 3, 95, 0), (95, .imul, 96, 0), (96, .goto 14, 99, 110), (99, .iload_n 2, 100, 0), (100, .iload_n 3, 101, 0), (101, .iadd, 102, 0), (102, .ifCond .le 7, 105, 109), (105, .iconst 1, 106, 0), (106, .goto 4, 109, 110), (109, .iconst 0, 110, 0), (110, .ireturn, 111, 0)]
def sw_mo_twoOf : List (Nat × List (Int32 × Nat) × Nat) := []
set_option maxRecDepth 100000 in
theorem te_mo_twoOf : ∀ q ∈ tb_mo_twoOf, gk_eok (gk_M 228).2.1 q = true := by decide +kernel
set_option maxRecDepth 100000 in
theorem tx_mo_twoOf (oG : List (Nat × gk_G)) : ∀ q ∈ tb_mo_twoOf, gk_xok "DryPlacesModel" pl_mo (1, sw_mo_twoOf, oG) q := by
  have h : tb_mo_twoOf.all (fun q => gk_xokb "DryPlacesModel" pl_mo sw_mo_twoOf q) = true := by decide +kernel
  exact fun q hq => gk_xok_of (List.all_eq_true.mp h q hq)
theorem ok_mo_twoOf (oG : List (Nat × gk_G)) : gk_ok gk_M 228 tb_mo_twoOf pl_mo (1, sw_mo_twoOf, oG) := ⟨te_mo_twoOf, pk_mo, tx_mo_twoOf oG, rfl⟩
def tb_mo_runs : gk_T := [(0, .iconst 0, 1, 0), (1, .istore 4, 3, 0), (3, .sipush 400, 6, 0), (6, .iload_n 1, 7, 0), (7, .imul, 8, 0), (8, .iload_n 2, 9, 0), (9, .iadd, 10, 0), (10, .istore 5, 12, 0), (12, .iload 5, 14, 0), (14, .sipush 400, 17, 0), (17, .iload_n 1, 18, 0), (18, .imul, 19, 0), (19, .iload_n 3, 20, 0), (20, .iadd, 21, 0), (21, .if_icmp .ge 155, 24, 176), (24, .aload_n 0, 25, 0), (25, .getfield 46, 28, 0), (28, .iload 5, 30, 0), (30, .iaload, 31, 0), (31, .ifCond .eq 14, 34, 45), (34, .aload_n 0, 35, 0), (35, .getfield 46, 38, 0), (38, .iload 5, 40, 0), (40, .iaload, 41, 0), (41, .iconst 1, 42, 0), (42, .if_icmp .ne 51, 45, 93), (45, .aload_n 0, 46, 0), (46, .getfield 71, 49, 0), (49, .iload 4, 51, 0), (51, .aload_n 0, 52, 0), (52, .getfield 46, 55, 0), (55, .iload 5, 57, 0), (57, .iaload, 58, 0), (58, .ifCond .ne 13, 61, 71), (61, .aload_n 0, 62, 0), (62, .getfield 49, 65, 0), (65, .iload 5, 67, 0), (67, .iaload, 68, 0), (68, .goto 15, 71, 83), (71, .aload_n 0, 72, 0), (72, .getfield 68, 75, 0), (75, .aload_n 0, 76, 0), (76, .getfield 49, 79, 0), (79, .iload 5, 81, 0), (81, .iaload, 82, 0), (82, .iaload, 83, 0), (83, .iastore, 84, 0), (84, .iload 4, 86, 0), (86, .iconst 1, 87, 0), (87, .iadd, 88, 0), (88, .istore 4, 90, 0), (90, .goto 80, 93, 170), (93, .aload_n 0, 94, 0), (94, .getfield 46, 97, 0), (97, .iload 5, 99, 0), (99, .iaload, 100, 0), (100, .bipush 9, 102, 0), (102, .if_icmp .ne 26, 105, 128), (105, .aload_n 0, 106, 0), (106, .getfield 71, 109, 0), (109, .iload 4, 111, 0), (111, .iconst 1, 112, 0), (112, .isub, 113, 0), (113, .iconst 1, 114, 0), (114, .aload_n 0, 115, 0), (115, .getfield 71, 118, 0), (118, .iload 4, 120, 0), (120, .iconst 1, 121, 0), (121, .isub, 122, 0), (122, .iaload, 123, 0), (123, .isub, 124, 0), (124, .iastore, 125, 0), (125, .goto 45, 128, 170), (128, .iload 4, 130, 0), (130, .iconst 1, 131, 0), (131, .isub, 132, 0), (132, .istore 4, 134, 0), (134, .aload_n 0, 135, 0), (135, .getfield 71, 138, 0), (138, .iload 4, 140, 0), (140, .iconst 1, 141, 0), (141, .isub, 142, 0), (142, .aload_n 0, 143, 0), (143, .aload_n 0, 144, 0), (144, .getfield 46, 147, 0), (147, .iload 5, 149, 0), (149, .iaload, 150, 0), (150, .aload_n 0, 151, 0), (151, .getfield 71, 154, 0), (154, .iload 4, 156, 0), (156, .iconst 1, 157, 0), (157, .isub, 158, 0), (158, .iaload, 159, 0), (159, .aload_n 0, 160, 0), (160, .getfield 71, 163, 0), (163, .iload 4, 165, 0), (165, .iaload, 166, 0), (166, .invokevirtual 316, 169, 0), (169, .iastore, 170, 0), (170, .iinc 5 1, 173, 0), (173, .goto (-161), 176, 12), (176, .aload_n 0, 177, 0), (177, .getfield 71, 180, 0), (180, .iconst 0, 181, 0), (181, .iaload, 182, 0), (182, .ireturn, 183, 0)]
def sw_mo_runs : List (Nat × List (Int32 × Nat) × Nat) := []
set_option maxRecDepth 100000 in
theorem te_mo_runs : ∀ q ∈ tb_mo_runs, gk_eok (gk_M 229).2.1 q = true := by decide +kernel
set_option maxRecDepth 100000 in
theorem tx_mo_runs (oG : List (Nat × gk_G)) : ∀ q ∈ tb_mo_runs, gk_xok "DryPlacesModel" pl_mo (1, sw_mo_runs, oG) q := by
  have h : tb_mo_runs.all (fun q => gk_xokb "DryPlacesModel" pl_mo sw_mo_runs q) = true := by decide +kernel
  exact fun q hq => gk_xok_of (List.all_eq_true.mp h q hq)
theorem ok_mo_runs (oG : List (Nat × gk_G)) : gk_ok gk_M 229 tb_mo_runs pl_mo (1, sw_mo_runs, oG) := ⟨te_mo_runs, pk_mo, tx_mo_runs oG, rfl⟩
def tb_mo_lineOf : gk_T := [(0, .iconst 0, 1, 0), (1, .istore_n 2, 2, 0), (2, .iload_n 2, 3, 0), (3, .aload_n 0, 4, 0), (4, .getfield 31, 7, 0), (7, .iconst 0, 8, 0), (8, .iaload, 9, 0), (9, .if_icmp .ge 56, 12, 65), (12, .aload_n 0, 13, 0), (13, .getfield 34, 16, 0), (16, .iload_n 2, 17, 0), (17, .iaload, 18, 0), (18, .iload_n 1, 19, 0), (19, .if_icmp .ne 40, 22, 59), (22, .aload_n 0, 23, 0), (23, .getfield 40, 26, 0), (26, .iload_n 2, 27, 0), (27, .iaload, 28, 0), (28, .aload_n 0, 29, 0), (29, .getfield 43, 32, 0), (32, .iload_n 2, 33, 0), (33, .iaload, 34, 0), (34, .if_icmp .eq 23, 37, 57), (37, .aload_n 0, 38, 0), (38, .iconst 0, 39, 0), (39, .aload_n 0, 40, 0), (40, .getfield 40, 43, 0), (43, .iload_n 2, 44, 0), (44, .iaload, 45, 0), (45, .aload_n 0, 46, 0), (46, .getfield 43, 49, 0), (49, .iload_n 2, 50, 0), (50, .iaload, 51, 0), (51, .invokevirtual 319, 54, 0), (54, .ifCond .eq 5, 57, 59), (57, .iload_n 2, 58, 0), (58, .ireturn, 59, 0), (59, .iinc 2 1, 62, 0), (62, .goto (-60), 65, 2), (65, .iconst (-1), 66, 0), (66, .ireturn, 67, 0)]
def sw_mo_lineOf : List (Nat × List (Int32 × Nat) × Nat) := []
set_option maxRecDepth 100000 in
theorem te_mo_lineOf : ∀ q ∈ tb_mo_lineOf, gk_eok (gk_M 230).2.1 q = true := by decide +kernel
set_option maxRecDepth 100000 in
theorem tx_mo_lineOf (oG : List (Nat × gk_G)) : ∀ q ∈ tb_mo_lineOf, gk_xok "DryPlacesModel" pl_mo (1, sw_mo_lineOf, oG) q := by
  have h : tb_mo_lineOf.all (fun q => gk_xokb "DryPlacesModel" pl_mo sw_mo_lineOf q) = true := by decide +kernel
  exact fun q hq => gk_xok_of (List.all_eq_true.mp h q hq)
theorem ok_mo_lineOf (oG : List (Nat × gk_G)) : gk_ok gk_M 230 tb_mo_lineOf pl_mo (1, sw_mo_lineOf, oG) := ⟨te_mo_lineOf, pk_mo, tx_mo_lineOf oG, rfl⟩
def tb_mo_lightOf : gk_T := [(0, .aload_n 0, 1, 0), (1, .getfield 7, 4, 0), (4, .bipush 11, 6, 0), (6, .iload_n 1, 7, 0), (7, .iadd, 8, 0), (8, .iaload, 9, 0), (9, .ifCond .ne 7, 12, 16), (12, .iconst 0, 13, 0), (13, .goto 21, 16, 34), (16, .aload_n 0, 17, 0), (17, .getfield 7, 20, 0), (20, .iconst 5, 21, 0), (21, .aload_n 0, 22, 0), (22, .getfield 7, 25, 0), (25, .bipush 11, 27, 0), (27, .iload_n 1, 28, 0), (28, .iadd, 29, 0), (29, .iaload, 30, 0), (30, .iadd, 31, 0), (31, .iconst 1, 32, 0), (32, .isub, 33, 0), (33, .iaload, 34, 0), (34, .ireturn, 35, 0)]
def sw_mo_lightOf : List (Nat × List (Int32 × Nat) × Nat) := []
set_option maxRecDepth 100000 in
theorem te_mo_lightOf : ∀ q ∈ tb_mo_lightOf, gk_eok (gk_M 231).2.1 q = true := by decide +kernel
set_option maxRecDepth 100000 in
theorem tx_mo_lightOf (oG : List (Nat × gk_G)) : ∀ q ∈ tb_mo_lightOf, gk_xok "DryPlacesModel" pl_mo (1, sw_mo_lightOf, oG) q := by
  have h : tb_mo_lightOf.all (fun q => gk_xokb "DryPlacesModel" pl_mo sw_mo_lightOf q) = true := by decide +kernel
  exact fun q hq => gk_xok_of (List.all_eq_true.mp h q hq)
theorem ok_mo_lightOf (oG : List (Nat × gk_G)) : gk_ok gk_M 231 tb_mo_lightOf pl_mo (1, sw_mo_lightOf, oG) := ⟨te_mo_lightOf, pk_mo, tx_mo_lightOf oG, rfl⟩
def tb_mo_asks : gk_T := [(0, .aload_n 0, 1, 0), (1, .getfield 68, 4, 0), (4, .iconst 0, 5, 0), (5, .aload_n 0, 6, 0), (6, .iload_n 1, 7, 0), (7, .invokevirtual 322, 10, 0), (10, .iastore, 11, 0), (11, .aload_n 0, 12, 0), (12, .getfield 68, 15, 0), (15, .iconst 1, 16, 0), (16, .aload_n 0, 17, 0), (17, .iload_n 1, 18, 0), (18, .invokevirtual 325, 21, 0), (21, .iastore, 22, 0), (22, .aload_n 0, 23, 0), (23, .getfield 68, 26, 0), (26, .iconst 2, 27, 0), (27, .aload_n 0, 28, 0), (28, .getfield 19, 31, 0), (31, .iload_n 1, 32, 0), (32, .iaload, 33, 0), (33, .iastore, 34, 0), (34, .aload_n 0, 35, 0), (35, .getfield 68, 38, 0), (38, .iconst 3, 39, 0), (39, .aload_n 0, 40, 0), (40, .iload_n 1, 41, 0), (41, .invokevirtual 328, 44, 0), (44, .iastore, 45, 0), (45, .aload_n 0, 46, 0), (46, .getfield 68, 49, 0), (49, .iconst 4, 50, 0), (50, .aload_n 0, 51, 0), (51, .getfield 7, 54, 0), (54, .bipush 11, 56, 0), (56, .iload_n 1, 57, 0), (57, .iadd, 58, 0), (58, .iaload, 59, 0), (59, .iastore, 60, 0), (60, .aload_n 0, 61, 0), (61, .getfield 68, 64, 0), (64, .iconst 5, 65, 0), (65, .aload_n 0, 66, 0), (66, .getfield 7, 69, 0), (69, .bipush 31, 71, 0), (71, .iload_n 1, 72, 0), (72, .iadd, 73, 0), (73, .iaload, 74, 0), (74, .iastore, 75, 0), (75, .aload_n 0, 76, 0), (76, .getfield 68, 79, 0), (79, .bipush 6, 81, 0), (81, .aload_n 0, 82, 0), (82, .getfield 7, 85, 0), (85, .bipush 41, 87, 0), (87, .iload_n 1, 88, 0), (88, .iadd, 89, 0), (89, .iaload, 90, 0), (90, .iastore, 91, 0), (91, .aload_n 0, 92, 0), (92, .getfield 68, 95, 0), (95, .bipush 7, 97, 0), (97, .aload_n 0, 98, 0), (98, .getfield 7, 101, 0), (101, .iconst 0, 102, 0), (102, .iaload, 103, 0), (103, .iastore, 104, 0), (104, .aload_n 0, 105, 0), (105, .getfield 68, 108, 0), (108, .bipush 8, 110, 0), (110, .iload_n 2, 111, 0), (111, .iastore, 112, 0), (112, .return_, 113, 0)]
def sw_mo_asks : List (Nat × List (Int32 × Nat) × Nat) := []
set_option maxRecDepth 100000 in
theorem te_mo_asks : ∀ q ∈ tb_mo_asks, gk_eok (gk_M 232).2.1 q = true := by decide +kernel
set_option maxRecDepth 100000 in
theorem tx_mo_asks (oG : List (Nat × gk_G)) : ∀ q ∈ tb_mo_asks, gk_xok "DryPlacesModel" pl_mo (0, sw_mo_asks, oG) q := by
  have h : tb_mo_asks.all (fun q => gk_xokb "DryPlacesModel" pl_mo sw_mo_asks q) = true := by decide +kernel
  exact fun q hq => gk_xok_of (List.all_eq_true.mp h q hq)
theorem ok_mo_asks (oG : List (Nat × gk_G)) : gk_ok gk_M 232 tb_mo_asks pl_mo (0, sw_mo_asks, oG) := ⟨te_mo_asks, pk_mo, tx_mo_asks oG, rfl⟩
def tb_mo_lawTells : gk_T := [(0, .aload_n 0, 1, 0), (1, .iload_n 1, 2, 0), (2, .invokevirtual 331, 5, 0), (5, .istore 4, 7, 0), (7, .aload_n 0, 8, 0), (8, .iload 4, 10, 0), (10, .iconst (-1), 11, 0), (11, .if_icmp .ne 7, 14, 18), (14, .iload_n 2, 15, 0), (15, .goto 22, 18, 37), (18, .aload_n 0, 19, 0), (19, .iconst 0, 20, 0), (20, .aload_n 0, 21, 0), (21, .getfield 37, 24, 0), (24, .iload 4, 26, 0), (26, .iaload, 27, 0), (27, .aload_n 0, 28, 0), (28, .getfield 40, 31, 0), (31, .iload 4, 33, 0), (33, .iaload, 34, 0), (34, .invokevirtual 319, 37, 0), (37, .iconst 0, 38, 0), (38, .iload_n 3, 39, 0), (39, .invokevirtual 334, 42, 0), (42, .ireturn, 43, 0)]
def sw_mo_lawTells : List (Nat × List (Int32 × Nat) × Nat) := []
set_option maxRecDepth 100000 in
theorem te_mo_lawTells : ∀ q ∈ tb_mo_lawTells, gk_eok (gk_M 233).2.1 q = true := by decide +kernel
set_option maxRecDepth 100000 in
theorem tx_mo_lawTells (oG : List (Nat × gk_G)) : ∀ q ∈ tb_mo_lawTells, gk_xok "DryPlacesModel" pl_mo (1, sw_mo_lawTells, oG) q := by
  have h : tb_mo_lawTells.all (fun q => gk_xokb "DryPlacesModel" pl_mo sw_mo_lawTells q) = true := by decide +kernel
  exact fun q hq => gk_xok_of (List.all_eq_true.mp h q hq)
theorem ok_mo_lawTells (oG : List (Nat × gk_G)) : gk_ok gk_M 233 tb_mo_lawTells pl_mo (1, sw_mo_lawTells, oG) := ⟨te_mo_lawTells, pk_mo, tx_mo_lawTells oG, rfl⟩
def tb_mo_creepsOf : gk_T := [(0, .aload_n 0, 1, 0), (1, .iload_n 1, 2, 0), (2, .aload_n 0, 3, 0), (3, .iload_n 1, 4, 0), (4, .iload_n 2, 5, 0), (5, .invokevirtual 147, 8, 0), (8, .invokevirtual 337, 11, 0), (11, .aload_n 0, 12, 0), (12, .iconst 0, 13, 0), (13, .bipush 10, 15, 0), (15, .aload_n 0, 16, 0), (16, .getfield 68, 19, 0), (19, .bipush 8, 21, 0), (21, .iaload, 22, 0), (22, .imul, 23, 0), (23, .sipush 1000, 26, 0), (26, .invokevirtual 340, 29, 0), (29, .ireturn, 30, 0)]
def sw_mo_creepsOf : List (Nat × List (Int32 × Nat) × Nat) := []
set_option maxRecDepth 100000 in
theorem te_mo_creepsOf : ∀ q ∈ tb_mo_creepsOf, gk_eok (gk_M 234).2.1 q = true := by decide +kernel
set_option maxRecDepth 100000 in
theorem tx_mo_creepsOf (oG : List (Nat × gk_G)) : ∀ q ∈ tb_mo_creepsOf, gk_xok "DryPlacesModel" pl_mo (1, sw_mo_creepsOf, oG) q := by
  have h : tb_mo_creepsOf.all (fun q => gk_xokb "DryPlacesModel" pl_mo sw_mo_creepsOf q) = true := by decide +kernel
  exact fun q hq => gk_xok_of (List.all_eq_true.mp h q hq)
theorem ok_mo_creepsOf (oG : List (Nat × gk_G)) : gk_ok gk_M 234 tb_mo_creepsOf pl_mo (1, sw_mo_creepsOf, oG) := ⟨te_mo_creepsOf, pk_mo, tx_mo_creepsOf oG, rfl⟩
def tb_mo_worthOf : gk_T := [(0, .aload_n 0, 1, 0), (1, .iload_n 1, 2, 0), (2, .iconst 0, 3, 0), (3, .invokevirtual 337, 6, 0), (6, .aload_n 0, 7, 0), (7, .iconst 1, 8, 0), (8, .iconst 5, 9, 0), (9, .aload_n 0, 10, 0), (10, .getfield 68, 13, 0), (13, .iconst 0, 14, 0), (14, .iaload, 15, 0), (15, .imul, 16, 0), (16, .aload_n 0, 17, 0), (17, .getfield 19, 20, 0), (20, .iload_n 1, 21, 0), (21, .iaload, 22, 0), (22, .iadd, 23, 0), (23, .sipush 9999, 26, 0), (26, .invokevirtual 340, 29, 0), (29, .ireturn, 30, 0)]
def sw_mo_worthOf : List (Nat × List (Int32 × Nat) × Nat) := []
set_option maxRecDepth 100000 in
theorem te_mo_worthOf : ∀ q ∈ tb_mo_worthOf, gk_eok (gk_M 235).2.1 q = true := by decide +kernel
set_option maxRecDepth 100000 in
theorem tx_mo_worthOf (oG : List (Nat × gk_G)) : ∀ q ∈ tb_mo_worthOf, gk_xok "DryPlacesModel" pl_mo (1, sw_mo_worthOf, oG) q := by
  have h : tb_mo_worthOf.all (fun q => gk_xokb "DryPlacesModel" pl_mo sw_mo_worthOf q) = true := by decide +kernel
  exact fun q hq => gk_xok_of (List.all_eq_true.mp h q hq)
theorem ok_mo_worthOf (oG : List (Nat × gk_G)) : gk_ok gk_M 235 tb_mo_worthOf pl_mo (1, sw_mo_worthOf, oG) := ⟨te_mo_worthOf, pk_mo, tx_mo_worthOf oG, rfl⟩
def tb_mo_comesOf : gk_T := [(0, .aload_n 0, 1, 0), (1, .iload_n 1, 2, 0), (2, .iconst 0, 3, 0), (3, .invokevirtual 337, 6, 0), (6, .aload_n 0, 7, 0), (7, .iconst 2, 8, 0), (8, .aload_n 0, 9, 0), (9, .getfield 68, 12, 0), (12, .iconst 3, 13, 0), (13, .iaload, 14, 0), (14, .aload_n 0, 15, 0), (15, .getfield 68, 18, 0), (18, .iconst 0, 19, 0), (19, .iaload, 20, 0), (20, .bipush 8, 22, 0), (22, .idiv, 23, 0), (23, .iadd, 24, 0), (24, .bipush 99, 26, 0), (26, .invokevirtual 340, 29, 0), (29, .ireturn, 30, 0)]
def sw_mo_comesOf : List (Nat × List (Int32 × Nat) × Nat) := []
set_option maxRecDepth 100000 in
theorem te_mo_comesOf : ∀ q ∈ tb_mo_comesOf, gk_eok (gk_M 236).2.1 q = true := by decide +kernel
set_option maxRecDepth 100000 in
theorem tx_mo_comesOf (oG : List (Nat × gk_G)) : ∀ q ∈ tb_mo_comesOf, gk_xok "DryPlacesModel" pl_mo (1, sw_mo_comesOf, oG) q := by
  have h : tb_mo_comesOf.all (fun q => gk_xokb "DryPlacesModel" pl_mo sw_mo_comesOf q) = true := by decide +kernel
  exact fun q hq => gk_xok_of (List.all_eq_true.mp h q hq)
theorem ok_mo_comesOf (oG : List (Nat × gk_G)) : gk_ok gk_M 236 tb_mo_comesOf pl_mo (1, sw_mo_comesOf, oG) := ⟨te_mo_comesOf, pk_mo, tx_mo_comesOf oG, rfl⟩
