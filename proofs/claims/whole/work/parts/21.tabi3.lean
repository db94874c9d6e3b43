/-! the instructions (written by a program) -/
def tb_gr_isDry : gk_T := [(0, .lload_n 0, 1, 0), (1, .iload_n 2, 2, 0), (2, .lushr, 3, 0), (3, .lconst 1, 4, 0), (4, .land, 5, 0), (5, .lconst 0, 6, 0), (6, .lcmp, 7, 0), (7, .ifCond .eq 7, 10, 14), (10, .iconst 1, 11, 0), (11, .goto 4, 14, 15), (14, .iconst 0, 15, 0), (15, .ireturn, 16, 0)]
def sw_gr_isDry : List (Nat × List (Int32 × Nat) × Nat) := []
set_option maxRecDepth 100000 in
theorem te_gr_isDry : ∀ q ∈ tb_gr_isDry, gk_eok (gk_M 0).2.1 q = true := by decide +kernel
set_option maxRecDepth 100000 in
theorem tx_gr_isDry (oG : List (Nat × gk_G)) : ∀ q ∈ tb_gr_isDry, gk_xok "DryPlaces$Ground" pl_gr (3, sw_gr_isDry, oG) q := by
  have h : tb_gr_isDry.all (fun q => gk_xokb "DryPlaces$Ground" pl_gr sw_gr_isDry q) = true := by decide +kernel
  exact fun q hq => gk_xok_of (List.all_eq_true.mp h q hq)
theorem ok_gr_isDry (oG : List (Nat × gk_G)) : gk_ok gk_M 0 tb_gr_isDry pl_gr (3, sw_gr_isDry, oG) := ⟨te_gr_isDry, pk_gr, tx_gr_isDry oG, rfl⟩
def tb_gr_rowOf : gk_T := [(0, .lload_n 0, 1, 0), (1, .bipush 8, 3, 0), (3, .iload_n 2, 4, 0), (4, .imul, 5, 0), (5, .lushr, 6, 0), (6, .l2i, 7, 0), (7, .sipush 255, 10, 0), (10, .iand, 11, 0), (11, .ireturn, 12, 0)]
def sw_gr_rowOf : List (Nat × List (Int32 × Nat) × Nat) := []
set_option maxRecDepth 100000 in
theorem te_gr_rowOf : ∀ q ∈ tb_gr_rowOf, gk_eok (gk_M 1).2.1 q = true := by decide +kernel
set_option maxRecDepth 100000 in
theorem tx_gr_rowOf (oG : List (Nat × gk_G)) : ∀ q ∈ tb_gr_rowOf, gk_xok "DryPlaces$Ground" pl_gr (1, sw_gr_rowOf, oG) q := by
  have h : tb_gr_rowOf.all (fun q => gk_xokb "DryPlaces$Ground" pl_gr sw_gr_rowOf q) = true := by decide +kernel
  exact fun q hq => gk_xok_of (List.all_eq_true.mp h q hq)
theorem ok_gr_rowOf (oG : List (Nat × gk_G)) : gk_ok gk_M 1 tb_gr_rowOf pl_gr (1, sw_gr_rowOf, oG) := ⟨te_gr_rowOf, pk_gr, tx_gr_rowOf oG, rfl⟩
def tb_gr_withRow : gk_T := [(0, .lload_n 0, 1, 0), (1, .ldc2_w 11, 4, 0), (4, .bipush 8, 6, 0), (6, .iload_n 2, 7, 0), (7, .imul, 8, 0), (8, .lshl, 9, 0), (9, .ldc2_w 13, 12, 0), (12, .lxor, 13, 0), (13, .land, 14, 0), (14, .iload_n 3, 15, 0), (15, .i2l, 16, 0), (16, .bipush 8, 18, 0), (18, .iload_n 2, 19, 0), (19, .imul, 20, 0), (20, .lshl, 21, 0), (21, .lor, 22, 0), (22, .lreturn, 23, 0)]
def sw_gr_withRow : List (Nat × List (Int32 × Nat) × Nat) := []
set_option maxRecDepth 100000 in
theorem te_gr_withRow : ∀ q ∈ tb_gr_withRow, gk_eok (gk_M 2).2.1 q = true := by decide +kernel
set_option maxRecDepth 100000 in
theorem tx_gr_withRow (oG : List (Nat × gk_G)) : ∀ q ∈ tb_gr_withRow, gk_xok "DryPlaces$Ground" pl_gr (2, sw_gr_withRow, oG) q := by
  have h : tb_gr_withRow.all (fun q => gk_xokb "DryPlaces$Ground" pl_gr sw_gr_withRow q) = true := by decide +kernel
  exact fun q hq => gk_xok_of (List.all_eq_true.mp h q hq)
theorem ok_gr_withRow (oG : List (Nat × gk_G)) : gk_ok gk_M 2 tb_gr_withRow pl_gr (2, sw_gr_withRow, oG) := ⟨te_gr_withRow, pk_gr, tx_gr_withRow oG, rfl⟩
def tb_gr_up : gk_T := [(0, .lload_n 0, 1, 0), (1, .bipush 8, 3, 0), (3, .lushr, 4, 0), (4, .lreturn, 5, 0)]
def sw_gr_up : List (Nat × List (Int32 × Nat) × Nat) := []
set_option maxRecDepth 100000 in
theorem te_gr_up : ∀ q ∈ tb_gr_up, gk_eok (gk_M 3).2.1 q = true := by decide +kernel
set_option maxRecDepth 100000 in
theorem tx_gr_up (oG : List (Nat × gk_G)) : ∀ q ∈ tb_gr_up, gk_xok "DryPlaces$Ground" pl_gr (2, sw_gr_up, oG) q := by
  have h : tb_gr_up.all (fun q => gk_xokb "DryPlaces$Ground" pl_gr sw_gr_up q) = true := by decide +kernel
  exact fun q hq => gk_xok_of (List.all_eq_true.mp h q hq)
theorem ok_gr_up (oG : List (Nat × gk_G)) : gk_ok gk_M 3 tb_gr_up pl_gr (2, sw_gr_up, oG) := ⟨te_gr_up, pk_gr, tx_gr_up oG, rfl⟩
def tb_gr_down : gk_T := [(0, .lload_n 0, 1, 0), (1, .bipush 8, 3, 0), (3, .lshl, 4, 0), (4, .lreturn, 5, 0)]
def sw_gr_down : List (Nat × List (Int32 × Nat) × Nat) := []
set_option maxRecDepth 100000 in
theorem te_gr_down : ∀ q ∈ tb_gr_down, gk_eok (gk_M 4).2.1 q = true := by decide +kernel
set_option maxRecDepth 100000 in
theorem tx_gr_down (oG : List (Nat × gk_G)) : ∀ q ∈ tb_gr_down, gk_xok "DryPlaces$Ground" pl_gr (2, sw_gr_down, oG) q := by
  have h : tb_gr_down.all (fun q => gk_xokb "DryPlaces$Ground" pl_gr sw_gr_down q) = true := by decide +kernel
  exact fun q hq => gk_xok_of (List.all_eq_true.mp h q hq)
theorem ok_gr_down (oG : List (Nat × gk_G)) : gk_ok gk_M 4 tb_gr_down pl_gr (2, sw_gr_down, oG) := ⟨te_gr_down, pk_gr, tx_gr_down oG, rfl⟩
def tb_gr_left : gk_T := [(0, .lload_n 0, 1, 0), (1, .iconst 1, 2, 0), (2, .lushr, 3, 0), (3, .ldc2_w 15, 6, 0), (6, .land, 7, 0), (7, .lreturn, 8, 0)]
def sw_gr_left : List (Nat × List (Int32 × Nat) × Nat) := []
set_option maxRecDepth 100000 in
theorem te_gr_left : ∀ q ∈ tb_gr_left, gk_eok (gk_M 5).2.1 q = true := by decide +kernel
set_option maxRecDepth 100000 in
theorem tx_gr_left (oG : List (Nat × gk_G)) : ∀ q ∈ tb_gr_left, gk_xok "DryPlaces$Ground" pl_gr (2, sw_gr_left, oG) q := by
  have h : tb_gr_left.all (fun q => gk_xokb "DryPlaces$Ground" pl_gr sw_gr_left q) = true := by decide +kernel
  exact fun q hq => gk_xok_of (List.all_eq_true.mp h q hq)
theorem ok_gr_left (oG : List (Nat × gk_G)) : gk_ok gk_M 5 tb_gr_left pl_gr (2, sw_gr_left, oG) := ⟨te_gr_left, pk_gr, tx_gr_left oG, rfl⟩
def tb_gr_right : gk_T := [(0, .lload_n 0, 1, 0), (1, .iconst 1, 2, 0), (2, .lshl, 3, 0), (3, .ldc2_w 17, 6, 0), (6, .land, 7, 0), (7, .lreturn, 8, 0)]
def sw_gr_right : List (Nat × List (Int32 × Nat) × Nat) := []
set_option maxRecDepth 100000 in
theorem te_gr_right : ∀ q ∈ tb_gr_right, gk_eok (gk_M 6).2.1 q = true := by decide +kernel
set_option maxRecDepth 100000 in
theorem tx_gr_right (oG : List (Nat × gk_G)) : ∀ q ∈ tb_gr_right, gk_xok "DryPlaces$Ground" pl_gr (2, sw_gr_right, oG) q := by
  have h : tb_gr_right.all (fun q => gk_xokb "DryPlaces$Ground" pl_gr sw_gr_right q) = true := by decide +kernel
  exact fun q hq => gk_xok_of (List.all_eq_true.mp h q hq)
theorem ok_gr_right (oG : List (Nat × gk_G)) : gk_ok gk_M 6 tb_gr_right pl_gr (2, sw_gr_right, oG) := ⟨te_gr_right, pk_gr, tx_gr_right oG, rfl⟩
def tb_gr_beside : gk_T := [(0, .lload_n 0, 1, 0), (1, .invokestatic 19, 4, 0), (4, .lload_n 0, 5, 0), (5, .invokestatic 23, 8, 0), (8, .lor, 9, 0), (9, .lload_n 0, 10, 0), (10, .invokestatic 26, 13, 0), (13, .lor, 14, 0), (14, .lload_n 0, 15, 0), (15, .invokestatic 29, 18, 0), (18, .lor, 19, 0), (19, .lreturn, 20, 0)]
def sw_gr_beside : List (Nat × List (Int32 × Nat) × Nat) := []
set_option maxRecDepth 100000 in
theorem te_gr_beside : ∀ q ∈ tb_gr_beside, gk_eok (gk_M 7).2.1 q = true := by decide +kernel
set_option maxRecDepth 100000 in
theorem tx_gr_beside (oG : List (Nat × gk_G)) : ∀ q ∈ tb_gr_beside, gk_xok "DryPlaces$Ground" pl_gr (2, sw_gr_beside, oG) q := by
  have h : tb_gr_beside.all (fun q => gk_xokb "DryPlaces$Ground" pl_gr sw_gr_beside q) = true := by decide +kernel
  exact fun q hq => gk_xok_of (List.all_eq_true.mp h q hq)
theorem ok_gr_beside (oG : List (Nat × gk_G)) : gk_ok gk_M 7 tb_gr_beside pl_gr (2, sw_gr_beside, oG) := ⟨te_gr_beside, pk_gr, tx_gr_beside oG, rfl⟩
def tb_gr_firstOf : gk_T := [(0, .lload_n 0, 1, 0), (1, .lconst 0, 2, 0), (2, .lcmp, 3, 0), (3, .ifCond .ne 7, 6, 10), (6, .iconst (-1), 7, 0), (7, .goto 12, 10, 19), (10, .lload_n 0, 11, 0), (11, .lload_n 0, 12, 0), (12, .lneg, 13, 0), (13, .land, 14, 0), (14, .lconst 1, 15, 0), (15, .lsub, 16, 0), (16, .invokestatic 32, 19, 0), (19, .ireturn, 20, 0)]
def sw_gr_firstOf : List (Nat × List (Int32 × Nat) × Nat) := []
set_option maxRecDepth 100000 in
theorem te_gr_firstOf : ∀ q ∈ tb_gr_firstOf, gk_eok (gk_M 8).2.1 q = true := by decide +kernel
set_option maxRecDepth 100000 in
theorem tx_gr_firstOf (oG : List (Nat × gk_G)) : ∀ q ∈ tb_gr_firstOf, gk_xok "DryPlaces$Ground" pl_gr (1, sw_gr_firstOf, oG) q := by
  have h : tb_gr_firstOf.all (fun q => gk_xokb "DryPlaces$Ground" pl_gr sw_gr_firstOf q) = true := by decide +kernel
  exact fun q hq => gk_xok_of (List.all_eq_true.mp h q hq)
theorem ok_gr_firstOf (oG : List (Nat × gk_G)) : gk_ok gk_M 8 tb_gr_firstOf pl_gr (1, sw_gr_firstOf, oG) := ⟨te_gr_firstOf, pk_gr, tx_gr_firstOf oG, rfl⟩
def tb_gr_wetBeside : gk_T := [(0, .iconst 4, 1, 0), (1, .lconst 1, 2, 0), (2, .iload_n 2, 3, 0), (3, .lshl, 4, 0), (4, .invokestatic 38, 7, 0), (7, .lload_n 0, 8, 0), (8, .land, 9, 0), (9, .invokestatic 32, 12, 0), (12, .isub, 13, 0), (13, .ireturn, 14, 0)]
def sw_gr_wetBeside : List (Nat × List (Int32 × Nat) × Nat) := []
set_option maxRecDepth 100000 in
theorem te_gr_wetBeside : ∀ q ∈ tb_gr_wetBeside, gk_eok (gk_M 9).2.1 q = true := by decide +kernel
set_option maxRecDepth 100000 in
theorem tx_gr_wetBeside (oG : List (Nat × gk_G)) : ∀ q ∈ tb_gr_wetBeside, gk_xok "DryPlaces$Ground" pl_gr (1, sw_gr_wetBeside, oG) q := by
  have h : tb_gr_wetBeside.all (fun q => gk_xokb "DryPlaces$Ground" pl_gr sw_gr_wetBeside q) = true := by decide +kernel
  exact fun q hq => gk_xok_of (List.all_eq_true.mp h q hq)
theorem ok_gr_wetBeside (oG : List (Nat × gk_G)) : gk_ok gk_M 9 tb_gr_wetBeside pl_gr (1, sw_gr_wetBeside, oG) := ⟨te_gr_wetBeside, pk_gr, tx_gr_wetBeside oG, rfl⟩
def tb_gr_edges : gk_T := [(0, .lload_n 0, 1, 0), (1, .lload_n 0, 2, 0), (2, .invokestatic 19, 5, 0), (5, .ldc2_w 13, 8, 0), (8, .lxor, 9, 0), (9, .land, 10, 0), (10, .invokestatic 32, 13, 0), (13, .lload_n 0, 14, 0), (14, .lload_n 0, 15, 0), (15, .invokestatic 23, 18, 0), (18, .ldc2_w 13, 21, 0), (21, .lxor, 22, 0), (22, .land, 23, 0), (23, .invokestatic 32, 26, 0), (26, .iadd, 27, 0), (27, .lload_n 0, 28, 0), (28, .lload_n 0, 29, 0), (29, .invokestatic 26, 32, 0), (32, .ldc2_w 13, 35, 0), (35, .lxor, 36, 0), (36, .land, 37, 0), (37, .invokestatic 32, 40, 0), (40, .iadd, 41, 0), (41, .lload_n 0, 42, 0), (42, .lload_n 0, 43, 0), (43, .invokestatic 29, 46, 0), (46, .ldc2_w 13, 49, 0), (49, .lxor, 50, 0), (50, .land, 51, 0), (51, .invokestatic 32, 54, 0), (54, .iadd, 55, 0), (55, .ireturn, 56, 0)]
def sw_gr_edges : List (Nat × List (Int32 × Nat) × Nat) := []
set_option maxRecDepth 100000 in
theorem te_gr_edges : ∀ q ∈ tb_gr_edges, gk_eok (gk_M 10).2.1 q = true := by decide +kernel
set_option maxRecDepth 100000 in
theorem tx_gr_edges (oG : List (Nat × gk_G)) : ∀ q ∈ tb_gr_edges, gk_xok "DryPlaces$Ground" pl_gr (1, sw_gr_edges, oG) q := by
  have h : tb_gr_edges.all (fun q => gk_xokb "DryPlaces$Ground" pl_gr sw_gr_edges q) = true := by decide +kernel
  exact fun q hq => gk_xok_of (List.all_eq_true.mp h q hq)
theorem ok_gr_edges (oG : List (Nat × gk_G)) : gk_ok gk_M 10 tb_gr_edges pl_gr (1, sw_gr_edges, oG) := ⟨te_gr_edges, pk_gr, tx_gr_edges oG, rfl⟩
def tb_gr_partOf : gk_T := [(0, .lload_n 2, 1, 0), (1, .lload_n 0, 2, 0), (2, .land, 3, 0), (3, .lstore 4, 5, 0), (5, .lconst 0, 6, 0), (6, .lstore 6, 8, 0), (8, .iconst 0, 9, 0), (9, .istore 8, 11, 0), (11, .iload 8, 13, 0), (13, .bipush 64, 15, 0), (15, .if_icmp .ge 33, 18, 48), (18, .lload 4, 20, 0), (20, .lload 6, 22, 0), (22, .lcmp, 23, 0), (23, .ifCond .eq 25, 26, 48), (26, .lload 4, 28, 0), (28, .lstore 6, 30, 0), (30, .lload 4, 32, 0), (32, .lload 4, 34, 0), (34, .invokestatic 38, 37, 0), (37, .lload_n 0, 38, 0), (38, .land, 39, 0), (39, .lor, 40, 0), (40, .lstore 4, 42, 0), (42, .iinc 8 1, 45, 0), (45, .goto (-34), 48, 11), (48, .lload 4, 50, 0), (50, .lreturn, 51, 0)]
def sw_gr_partOf : List (Nat × List (Int32 × Nat) × Nat) := []
set_option maxRecDepth 100000 in
theorem te_gr_partOf : ∀ q ∈ tb_gr_partOf, gk_eok (gk_M 11).2.1 q = true := by decide +kernel
set_option maxRecDepth 100000 in
theorem tx_gr_partOf (oG : List (Nat × gk_G)) : ∀ q ∈ tb_gr_partOf, gk_xok "DryPlaces$Ground" pl_gr (2, sw_gr_partOf, oG) q := by
  have h : tb_gr_partOf.all (fun q => gk_xokb "DryPlaces$Ground" pl_gr sw_gr_partOf q) = true := by decide +kernel
  exact fun q hq => gk_xok_of (List.all_eq_true.mp h q hq)
theorem ok_gr_partOf (oG : List (Nat × gk_G)) : gk_ok gk_M 11 tb_gr_partOf pl_gr (2, sw_gr_partOf, oG) := ⟨te_gr_partOf, pk_gr, tx_gr_partOf oG, rfl⟩
def tb_gr_parts : gk_T := [(0, .lload_n 0, 1, 0), (1, .lstore_n 2, 2, 0), (2, .iconst 0, 3, 0), (3, .istore 4, 5, 0), (5, .iconst 0, 6, 0), (6, .istore 5, 8, 0), (8, .iload 5, 10, 0), (10, .bipush 64, 12, 0), (12, .if_icmp .ge 33, 15, 45), (15, .lload_n 2, 16, 0), (16, .lconst 0, 17, 0), (17, .lcmp, 18, 0), (18, .ifCond .eq 27, 21, 45), (21, .lload_n 2, 22, 0), (22, .lload_n 2, 23, 0), (23, .lload_n 2, 24, 0), (24, .lload_n 2, 25, 0), (25, .lneg, 26, 0), (26, .land, 27, 0), (27, .invokestatic 41, 30, 0), (30, .ldc2_w 13, 33, 0), (33, .lxor, 34, 0), (34, .land, 35, 0), (35, .lstore_n 2, 36, 0), (36, .iinc 4 1, 39, 0), (39, .iinc 5 1, 42, 0), (42, .goto (-34), 45, 8), (45, .iload 4, 47, 0), (47, .ireturn, 48, 0)]
def sw_gr_parts : List (Nat × List (Int32 × Nat) × Nat) := []
set_option maxRecDepth 100000 in
theorem te_gr_parts : ∀ q ∈ tb_gr_parts, gk_eok (gk_M 12).2.1 q = true := by decide +kernel
set_option maxRecDepth 100000 in
theorem tx_gr_parts (oG : List (Nat × gk_G)) : ∀ q ∈ tb_gr_parts, gk_xok "DryPlaces$Ground" pl_gr (1, sw_gr_parts, oG) q := by
  have h : tb_gr_parts.all (fun q => gk_xokb "DryPlaces$Ground" pl_gr sw_gr_parts q) = true := by decide +kernel
  exact fun q hq => gk_xok_of (List.all_eq_true.mp h q hq)
theorem ok_gr_parts (oG : List (Nat × gk_G)) : gk_ok gk_M 12 tb_gr_parts pl_gr (1, sw_gr_parts, oG) := ⟨te_gr_parts, pk_gr, tx_gr_parts oG, rfl⟩
def tb_gr_holes : gk_T := [(0, .lload_n 0, 1, 0), (1, .ldc2_w 13, 4, 0), (4, .lxor, 5, 0), (5, .lstore_n 2, 6, 0), (6, .lload_n 2, 7, 0), (7, .lload_n 2, 8, 0), (8, .ldc2_w 45, 11, 0), (11, .invokestatic 41, 14, 0), (14, .ldc2_w 13, 17, 0), (17, .lxor, 18, 0), (18, .land, 19, 0), (19, .invokestatic 47, 22, 0), (22, .ireturn, 23, 0)]
def sw_gr_holes : List (Nat × List (Int32 × Nat) × Nat) := []
set_option maxRecDepth 100000 in
theorem te_gr_holes : ∀ q ∈ tb_gr_holes, gk_eok (gk_M 13).2.1 q = true := by decide +kernel
set_option maxRecDepth 100000 in
theorem tx_gr_holes (oG : List (Nat × gk_G)) : ∀ q ∈ tb_gr_holes, gk_xok "DryPlaces$Ground" pl_gr (1, sw_gr_holes, oG) q := by
  have h : tb_gr_holes.all (fun q => gk_xokb "DryPlaces$Ground" pl_gr sw_gr_holes q) = true := by decide +kernel
  exact fun q hq => gk_xok_of (List.all_eq_true.mp h q hq)
theorem ok_gr_holes (oG : List (Nat × gk_G)) : gk_ok gk_M 13 tb_gr_holes pl_gr (1, sw_gr_holes, oG) := ⟨te_gr_holes, pk_gr, tx_gr_holes oG, rfl⟩
def tb_gr_shrunk : gk_T := [(0, .lload_n 0, 1, 0), (1, .lstore_n 3, 2, 0), (2, .iconst 0, 3, 0), (3, .istore 5, 5, 0), (5, .iload 5, 7, 0), (7, .iload_n 2, 8, 0), (8, .if_icmp .ge 31, 11, 39), (11, .lload_n 3, 12, 0), (12, .lload_n 3, 13, 0), (13, .invokestatic 19, 16, 0), (16, .lload_n 3, 17, 0), (17, .invokestatic 23, 20, 0), (20, .land, 21, 0), (21, .lload_n 3, 22, 0), (22, .invokestatic 26, 25, 0), (25, .land, 26, 0), (26, .lload_n 3, 27, 0), (27, .invokestatic 29, 30, 0), (30, .land, 31, 0), (31, .land, 32, 0), (32, .lstore_n 3, 33, 0), (33, .iinc 5 1, 36, 0), (36, .goto (-31), 39, 5), (39, .lload_n 3, 40, 0), (40, .lreturn, 41, 0)]
def sw_gr_shrunk : List (Nat × List (Int32 × Nat) × Nat) := []
set_option maxRecDepth 100000 in
theorem te_gr_shrunk : ∀ q ∈ tb_gr_shrunk, gk_eok (gk_M 14).2.1 q = true := by decide +kernel
set_option maxRecDepth 100000 in
theorem tx_gr_shrunk (oG : List (Nat × gk_G)) : ∀ q ∈ tb_gr_shrunk, gk_xok "DryPlaces$Ground" pl_gr (2, sw_gr_shrunk, oG) q := by
  have h : tb_gr_shrunk.all (fun q => gk_xokb "DryPlaces$Ground" pl_gr sw_gr_shrunk q) = true := by decide +kernel
  exact fun q hq => gk_xok_of (List.all_eq_true.mp h q hq)
theorem ok_gr_shrunk (oG : List (Nat × gk_G)) : gk_ok gk_M 14 tb_gr_shrunk pl_gr (2, sw_gr_shrunk, oG) := ⟨te_gr_shrunk, pk_gr, tx_gr_shrunk oG, rfl⟩
def tb_gr_depth : gk_T := [(0, .iconst 0, 1, 0), (1, .istore_n 2, 2, 0), (2, .lload_n 0, 3, 0), (3, .lstore_n 3, 4, 0), (4, .iconst 0, 5, 0), (5, .istore 5, 7, 0), (7, .iload 5, 9, 0), (9, .bipush 8, 11, 0), (11, .if_icmp .ge 24, 14, 35), (14, .lload_n 3, 15, 0), (15, .lconst 0, 16, 0), (16, .lcmp, 17, 0), (17, .ifCond .eq 18, 20, 35), (20, .lload_n 3, 21, 0), (21, .iconst 1, 22, 0), (22, .invokestatic 50, 25, 0), (25, .lstore_n 3, 26, 0), (26, .iinc 2 1, 29, 0), (29, .iinc 5 1, 32, 0), (32, .goto (-25), 35, 7), (35, .iload_n 2, 36, 0), (36, .ireturn, 37, 0)]
def sw_gr_depth : List (Nat × List (Int32 × Nat) × Nat) := []
set_option maxRecDepth 100000 in
theorem te_gr_depth : ∀ q ∈ tb_gr_depth, gk_eok (gk_M 15).2.1 q = true := by decide +kernel
set_option maxRecDepth 100000 in
theorem tx_gr_depth (oG : List (Nat × gk_G)) : ∀ q ∈ tb_gr_depth, gk_xok "DryPlaces$Ground" pl_gr (1, sw_gr_depth, oG) q := by
  have h : tb_gr_depth.all (fun q => gk_xokb "DryPlaces$Ground" pl_gr sw_gr_depth q) = true := by decide +kernel
  exact fun q hq => gk_xok_of (List.all_eq_true.mp h q hq)
theorem ok_gr_depth (oG : List (Nat × gk_G)) : gk_ok gk_M 15 tb_gr_depth pl_gr (1, sw_gr_depth, oG) := ⟨te_gr_depth, pk_gr, tx_gr_depth oG, rfl⟩
def tb_gr_turnedCell : gk_T := [(0, .iload_n 0, 1, 0), (1, .bipush 8, 3, 0), (3, .idiv, 4, 0), (4, .istore_n 2, 5, 0), (5, .iload_n 0, 6, 0), (6, .bipush 8, 8, 0), (8, .irem, 9, 0), (9, .istore_n 3, 10, 0), (10, .iload_n 1, 11, 0), (11, .iconst 4, 12, 0), (12, .if_icmp .lt 8, 15, 20), (15, .bipush 7, 17, 0), (17, .iload_n 3, 18, 0), (18, .isub, 19, 0), (19, .istore_n 3, 20, 0), (20, .iconst 0, 21, 0), (21, .istore 4, 23, 0), (23, .iload 4, 25, 0), (25, .iload_n 1, 26, 0), (26, .iconst 4, 27, 0), (27, .irem, 28, 0), (28, .if_icmp .ge 20, 31, 48), (31, .iload_n 2, 32, 0), (32, .istore 5, 34, 0), (34, .iload_n 3, 35, 0), (35, .istore_n 2, 36, 0), (36, .bipush 7, 38, 0), (38, .iload 5, 40, 0), (40, .isub, 41, 0), (41, .istore_n 3, 42, 0), (42, .iinc 4 1, 45, 0), (45, .goto (-22), 48, 23), (48, .bipush 8, 50, 0), (50, .iload_n 2, 51, 0), (51, .imul, 52, 0), (52, .iload_n 3, 53, 0), (53, .iadd, 54, 0), (54, .ireturn, 55, 0)]
def sw_gr_turnedCell : List (Nat × List (Int32 × Nat) × Nat) := []
set_option maxRecDepth 100000 in
theorem te_gr_turnedCell : ∀ q ∈ tb_gr_turnedCell, gk_eok (gk_M 16).2.1 q = true := by decide +kernel
set_option maxRecDepth 100000 in
theorem tx_gr_turnedCell (oG : List (Nat × gk_G)) : ∀ q ∈ tb_gr_turnedCell, gk_xok "DryPlaces$Ground" pl_gr (1, sw_gr_turnedCell, oG) q := by
  have h : tb_gr_turnedCell.all (fun q => gk_xokb "DryPlaces$Ground" pl_gr sw_gr_turnedCell q) = true := by decide +kernel
  exact fun q hq => gk_xok_of (List.all_eq_true.mp h q hq)
theorem ok_gr_turnedCell (oG : List (Nat × gk_G)) : gk_ok gk_M 16 tb_gr_turnedCell pl_gr (1, sw_gr_turnedCell, oG) := ⟨te_gr_turnedCell, pk_gr, tx_gr_turnedCell oG, rfl⟩
def tb_gr_turnedBy : gk_T := [(0, .lconst 0, 1, 0), (1, .lstore_n 3, 2, 0), (2, .iconst 0, 3, 0), (3, .istore 5, 5, 0), (5, .iload 5, 7, 0), (7, .bipush 64, 9, 0), (9, .if_icmp .ge 29, 12, 38), (12, .lload_n 0, 13, 0), (13, .iload 5, 15, 0), (15, .invokestatic 54, 18, 0), (18, .ifCond .eq 14, 21, 32), (21, .lload_n 3, 22, 0), (22, .lconst 1, 23, 0), (23, .iload 5, 25, 0), (25, .iload_n 2, 26, 0), (26, .invokestatic 58, 29, 0), (29, .lshl, 30, 0), (30, .lor, 31, 0), (31, .lstore_n 3, 32, 0), (32, .iinc 5 1, 35, 0), (35, .goto (-30), 38, 5), (38, .lload_n 3, 39, 0), (39, .lreturn, 40, 0)]
def sw_gr_turnedBy : List (Nat × List (Int32 × Nat) × Nat) := []
set_option maxRecDepth 100000 in
theorem te_gr_turnedBy : ∀ q ∈ tb_gr_turnedBy, gk_eok (gk_M 17).2.1 q = true := by decide +kernel
set_option maxRecDepth 100000 in
theorem tx_gr_turnedBy (oG : List (Nat × gk_G)) : ∀ q ∈ tb_gr_turnedBy, gk_xok "DryPlaces$Ground" pl_gr (2, sw_gr_turnedBy, oG) q := by
  have h : tb_gr_turnedBy.all (fun q => gk_xokb "DryPlaces$Ground" pl_gr sw_gr_turnedBy q) = true := by decide +kernel
  exact fun q hq => gk_xok_of (List.all_eq_true.mp h q hq)
theorem ok_gr_turnedBy (oG : List (Nat × gk_G)) : gk_ok gk_M 17 tb_gr_turnedBy pl_gr (2, sw_gr_turnedBy, oG) := ⟨te_gr_turnedBy, pk_gr, tx_gr_turnedBy oG, rfl⟩
def tb_gr_cornered : gk_T := [(0, .lload_n 0, 1, 0), (1, .lstore_n 2, 2, 0), (2, .iconst 0, 3, 0), (3, .istore 4, 5, 0), (5, .iload 4, 7, 0), (7, .bipush 8, 9, 0), (9, .if_icmp .ge 24, 12, 33), (12, .lload_n 2, 13, 0), (13, .ldc2_w 11, 16, 0), (16, .land, 17, 0), (17, .lconst 0, 18, 0), (18, .lcmp, 19, 0), (19, .ifCond .ne 14, 22, 33), (22, .lload_n 2, 23, 0), (23, .invokestatic 19, 26, 0), (26, .lstore_n 2, 27, 0), (27, .iinc 4 1, 30, 0), (30, .goto (-25), 33, 5), (33, .iconst 0, 34, 0), (34, .istore 4, 36, 0), (36, .iload 4, 38, 0), (38, .bipush 8, 40, 0), (40, .if_icmp .ge 24, 43, 64), (43, .lload_n 2, 44, 0), (44, .ldc2_w 62, 47, 0), (47, .land, 48, 0), (48, .lconst 0, 49, 0), (49, .lcmp, 50, 0), (50, .ifCond .ne 14, 53, 64), (53, .lload_n 2, 54, 0), (54, .invokestatic 26, 57, 0), (57, .lstore_n 2, 58, 0), (58, .iinc 4 1, 61, 0), (61, .goto (-25), 64, 36), (64, .lload_n 2, 65, 0), (65, .lreturn, 66, 0)]
def sw_gr_cornered : List (Nat × List (Int32 × Nat) × Nat) := []
set_option maxRecDepth 100000 in
theorem te_gr_cornered : ∀ q ∈ tb_gr_cornered, gk_eok (gk_M 18).2.1 q = true := by decide +kernel
set_option maxRecDepth 100000 in
theorem tx_gr_cornered (oG : List (Nat × gk_G)) : ∀ q ∈ tb_gr_cornered, gk_xok "DryPlaces$Ground" pl_gr (2, sw_gr_cornered, oG) q := by
  have h : tb_gr_cornered.all (fun q => gk_xokb "DryPlaces$Ground" pl_gr sw_gr_cornered q) = true := by decide +kernel
  exact fun q hq => gk_xok_of (List.all_eq_true.mp h q hq)
theorem ok_gr_cornered (oG : List (Nat × gk_G)) : gk_ok gk_M 18 tb_gr_cornered pl_gr (2, sw_gr_cornered, oG) := ⟨te_gr_cornered, pk_gr, tx_gr_cornered oG, rfl⟩
def tb_gr_squareCorners : gk_T := [(0, .lload_n 0, 1, 0), (1, .lstore_n 3, 2, 0), (2, .iconst 1, 3, 0), (3, .istore 5, 5, 0), (5, .iload 5, 7, 0), (7, .iload_n 2, 8, 0), (8, .if_icmp .ge 23, 11, 31), (11, .lload_n 3, 12, 0), (12, .lload_n 3, 13, 0), (13, .invokestatic 26, 16, 0), (16, .land, 17, 0), (17, .lstore_n 3, 18, 0), (18, .lload_n 3, 19, 0), (19, .lload_n 3, 20, 0), (20, .invokestatic 19, 23, 0), (23, .land, 24, 0), (24, .lstore_n 3, 25, 0), (25, .iinc 5 1, 28, 0), (28, .goto (-23), 31, 5), (31, .lload_n 3, 32, 0), (32, .lreturn, 33, 0)]
def sw_gr_squareCorners : List (Nat × List (Int32 × Nat) × Nat) := []
set_option maxRecDepth 100000 in
theorem te_gr_squareCorners : ∀ q ∈ tb_gr_squareCorners, gk_eok (gk_M 19).2.1 q = true := by decide +kernel
set_option maxRecDepth 100000 in
theorem tx_gr_squareCorners (oG : List (Nat × gk_G)) : ∀ q ∈ tb_gr_squareCorners, gk_xok "DryPlaces$Ground" pl_gr (2, sw_gr_squareCorners, oG) q := by
  have h : tb_gr_squareCorners.all (fun q => gk_xokb "DryPlaces$Ground" pl_gr sw_gr_squareCorners q) = true := by decide +kernel
  exact fun q hq => gk_xok_of (List.all_eq_true.mp h q hq)
theorem ok_gr_squareCorners (oG : List (Nat × gk_G)) : gk_ok gk_M 19 tb_gr_squareCorners pl_gr (2, sw_gr_squareCorners, oG) := ⟨te_gr_squareCorners, pk_gr, tx_gr_squareCorners oG, rfl⟩
def tb_gr_squareSide : gk_T := [(0, .iconst 0, 1, 0), (1, .istore_n 2, 2, 0), (2, .iconst 1, 3, 0), (3, .istore_n 3, 4, 0), (4, .iload_n 3, 5, 0), (5, .bipush 8, 7, 0), (7, .if_icmp .gt 21, 10, 28), (10, .lload_n 0, 11, 0), (11, .iload_n 3, 12, 0), (12, .invokestatic 64, 15, 0), (15, .lconst 0, 16, 0), (16, .lcmp, 17, 0), (17, .ifCond .eq 11, 20, 28), (20, .iload_n 3, 21, 0), (21, .istore_n 2, 22, 0), (22, .iinc 3 1, 25, 0), (25, .goto (-21), 28, 4), (28, .iload_n 2, 29, 0), (29, .ireturn, 30, 0)]
def sw_gr_squareSide : List (Nat × List (Int32 × Nat) × Nat) := []
set_option maxRecDepth 100000 in
theorem te_gr_squareSide : ∀ q ∈ tb_gr_squareSide, gk_eok (gk_M 20).2.1 q = true := by decide +kernel
set_option maxRecDepth 100000 in
theorem tx_gr_squareSide (oG : List (Nat × gk_G)) : ∀ q ∈ tb_gr_squareSide, gk_xok "DryPlaces$Ground" pl_gr (1, sw_gr_squareSide, oG) q := by
  have h : tb_gr_squareSide.all (fun q => gk_xokb "DryPlaces$Ground" pl_gr sw_gr_squareSide q) = true := by decide +kernel
  exact fun q hq => gk_xok_of (List.all_eq_true.mp h q hq)
theorem ok_gr_squareSide (oG : List (Nat × gk_G)) : gk_ok gk_M 20 tb_gr_squareSide pl_gr (1, sw_gr_squareSide, oG) := ⟨te_gr_squareSide, pk_gr, tx_gr_squareSide oG, rfl⟩
def tb_gr_squaresFrom : gk_T := [(0, .lload_n 0, 1, 0), (1, .lstore_n 3, 2, 0), (2, .iconst 1, 3, 0), (3, .istore 5, 5, 0), (5, .iload 5, 7, 0), (7, .iload_n 2, 8, 0), (8, .if_icmp .ge 23, 11, 31), (11, .lload_n 3, 12, 0), (12, .lload_n 3, 13, 0), (13, .invokestatic 29, 16, 0), (16, .lor, 17, 0), (17, .lstore_n 3, 18, 0), (18, .lload_n 3, 19, 0), (19, .lload_n 3, 20, 0), (20, .invokestatic 23, 23, 0), (23, .lor, 24, 0), (24, .lstore_n 3, 25, 0), (25, .iinc 5 1, 28, 0), (28, .goto (-23), 31, 5), (31, .lload_n 3, 32, 0), (32, .lreturn, 33, 0)]
def sw_gr_squaresFrom : List (Nat × List (Int32 × Nat) × Nat) := []
set_option maxRecDepth 100000 in
theorem te_gr_squaresFrom : ∀ q ∈ tb_gr_squaresFrom, gk_eok (gk_M 21).2.1 q = true := by decide +kernel
set_option maxRecDepth 100000 in
theorem tx_gr_squaresFrom (oG : List (Nat × gk_G)) : ∀ q ∈ tb_gr_squaresFrom, gk_xok "DryPlaces$Ground" pl_gr (2, sw_gr_squaresFrom, oG) q := by
  have h : tb_gr_squaresFrom.all (fun q => gk_xokb "DryPlaces$Ground" pl_gr sw_gr_squaresFrom q) = true := by decide +kernel
  exact fun q hq => gk_xok_of (List.all_eq_true.mp h q hq)
theorem ok_gr_squaresFrom (oG : List (Nat × gk_G)) : gk_ok gk_M 21 tb_gr_squaresFrom pl_gr (2, sw_gr_squaresFrom, oG) := ⟨te_gr_squaresFrom, pk_gr, tx_gr_squaresFrom oG, rfl⟩
def tb_gr_pushed : gk_T := [(0, .iload_n 2, 1, 0), (1, .bipush (-7), 3, 0), (3, .bipush 7, 5, 0), (5, .invokestatic 67, 8, 0), (8, .ifCond .eq 14, 11, 22), (11, .iload_n 3, 12, 0), (12, .bipush (-7), 14, 0), (14, .bipush 7, 16, 0), (16, .invokestatic 67, 19, 0), (19, .ifCond .ne 5, 22, 24), (22, .lconst 0, 23, 0), (23, .lreturn, 24, 0), (24, .lload_n 0, 25, 0), (25, .lstore 4, 27, 0), (27, .iload_n 3, 28, 0), (28, .ifCond .lt 23, 31, 51), (31, .lload 4, 33, 0), (33, .ldc2_w 62, 36, 0), (36, .sipush 255, 39, 0), (39, .iload_n 3, 40, 0), (40, .ishr, 41, 0), (41, .i2l, 42, 0), (42, .lmul, 43, 0), (43, .land, 44, 0), (44, .iload_n 3, 45, 0), (45, .lshl, 46, 0), (46, .lstore 4, 48, 0), (48, .goto 26, 51, 74), (51, .lload 4, 53, 0), (53, .ldc2_w 62, 56, 0), (56, .sipush 255, 59, 0), (59, .iload_n 3, 60, 0), (60, .ineg, 61, 0), (61, .ishl, 62, 0), (62, .sipush 255, 65, 0), (65, .iand, 66, 0), (66, .i2l, 67, 0), (67, .lmul, 68, 0), (68, .land, 69, 0), (69, .iload_n 3, 70, 0), (70, .ineg, 71, 0), (71, .lushr, 72, 0), (72, .lstore 4, 74, 0), (74, .iload_n 2, 75, 0), (75, .ifCond .lt 13, 78, 88), (78, .lload 4, 80, 0), (80, .bipush 8, 82, 0), (82, .iload_n 2, 83, 0), (83, .imul, 84, 0), (84, .lshl, 85, 0), (85, .goto 11, 88, 96), (88, .lload 4, 90, 0), (90, .bipush 8, 92, 0), (92, .iload_n 2, 93, 0), (93, .ineg, 94, 0), (94, .imul, 95, 0), (95, .lushr, 96, 0), (96, .lreturn, 97, 0)]
def sw_gr_pushed : List (Nat × List (Int32 × Nat) × Nat) := []
set_option maxRecDepth 100000 in
theorem te_gr_pushed : ∀ q ∈ tb_gr_pushed, gk_eok (gk_M 22).2.1 q = true := by decide +kernel
set_option maxRecDepth 100000 in
theorem tx_gr_pushed (oG : List (Nat × gk_G)) : ∀ q ∈ tb_gr_pushed, gk_xok "DryPlaces$Ground" pl_gr (2, sw_gr_pushed, oG) q := by
  have h : tb_gr_pushed.all (fun q => gk_xokb "DryPlaces$Ground" pl_gr sw_gr_pushed q) = true := by decide +kernel
  exact fun q hq => gk_xok_of (List.all_eq_true.mp h q hq)
theorem ok_gr_pushed (oG : List (Nat × gk_G)) : gk_ok gk_M 22 tb_gr_pushed pl_gr (2, sw_gr_pushed, oG) := ⟨te_gr_pushed, pk_gr, tx_gr_pushed oG, rfl⟩
def tb_gr_overlap : gk_T := [(0, .lload_n 0, 1, 0), (1, .lload_n 2, 2, 0), (2, .iload 4, 4, 0), (4, .iload 5, 6, 0), (6, .invokestatic 71, 9, 0), (9, .land, 10, 0), (10, .invokestatic 32, 13, 0), (13, .ireturn, 14, 0)]
def sw_gr_overlap : List (Nat × List (Int32 × Nat) × Nat) := []
set_option maxRecDepth 100000 in
theorem te_gr_overlap : ∀ q ∈ tb_gr_overlap, gk_eok (gk_M 23).2.1 q = true := by decide +kernel
set_option maxRecDepth 100000 in
theorem tx_gr_overlap (oG : List (Nat × gk_G)) : ∀ q ∈ tb_gr_overlap, gk_xok "DryPlaces$Ground" pl_gr (1, sw_gr_overlap, oG) q := by
  have h : tb_gr_overlap.all (fun q => gk_xokb "DryPlaces$Ground" pl_gr sw_gr_overlap q) = true := by decide +kernel
  exact fun q hq => gk_xok_of (List.all_eq_true.mp h q hq)
theorem ok_gr_overlap (oG : List (Nat × gk_G)) : gk_ok gk_M 23 tb_gr_overlap pl_gr (1, sw_gr_overlap, oG) := ⟨te_gr_overlap, pk_gr, tx_gr_overlap oG, rfl⟩
def tb_gr_couples : gk_T := [(0, .iload 4, 2, 0), (2, .bipush 15, 4, 0), (4, .idiv, 5, 0), (5, .bipush 7, 7, 0), (7, .isub, 8, 0), (8, .istore 5, 10, 0), (10, .iload 4, 12, 0), (12, .bipush 15, 14, 0), (14, .irem, 15, 0), (15, .bipush 7, 17, 0), (17, .isub, 18, 0), (18, .istore 6, 20, 0), (20, .lload_n 0, 21, 0), (21, .lload_n 2, 22, 0), (22, .iload 5, 24, 0), (24, .iload 6, 26, 0), (26, .invokestatic 75, 29, 0), (29, .ifCond .le 5, 32, 34), (32, .iconst (-1), 33, 0), (33, .ireturn, 34, 0), (34, .lload_n 0, 35, 0), (35, .lload_n 2, 36, 0), (36, .iload 5, 38, 0), (38, .iconst 1, 39, 0), (39, .isub, 40, 0), (40, .iload 6, 42, 0), (42, .invokestatic 75, 45, 0), (45, .lload_n 0, 46, 0), (46, .lload_n 2, 47, 0), (47, .iload 5, 49, 0), (49, .iconst 1, 50, 0), (50, .iadd, 51, 0), (51, .iload 6, 53, 0), (53, .invokestatic 75, 56, 0), (56, .iadd, 57, 0), (57, .lload_n 0, 58, 0), (58, .lload_n 2, 59, 0), (59, .iload 5, 61, 0), (61, .iload 6, 63, 0), (63, .iconst 1, 64, 0), (64, .isub, 65, 0), (65, .invokestatic 75, 68, 0), (68, .iadd, 69, 0), (69, .lload_n 0, 70, 0), (70, .lload_n 2, 71, 0), (71, .iload 5, 73, 0), (73, .iload 6, 75, 0), (75, .iconst 1, 76, 0), (76, .iadd, 77, 0), (77, .invokestatic 75, 80, 0), (80, .iadd, 81, 0), (81, .ireturn, 82, 0)]
def sw_gr_couples : List (Nat × List (Int32 × Nat) × Nat) := []
set_option maxRecDepth 100000 in
theorem te_gr_couples : ∀ q ∈ tb_gr_couples, gk_eok (gk_M 24).2.1 q = true := by decide +kernel
set_option maxRecDepth 100000 in
theorem tx_gr_couples (oG : List (Nat × gk_G)) : ∀ q ∈ tb_gr_couples, gk_xok "DryPlaces$Ground" pl_gr (1, sw_gr_couples, oG) q := by
  have h : tb_gr_couples.all (fun q => gk_xokb "DryPlaces$Ground" pl_gr sw_gr_couples q) = true := by decide +kernel
  exact fun q hq => gk_xok_of (List.all_eq_true.mp h q hq)
theorem ok_gr_couples (oG : List (Nat × gk_G)) : gk_ok gk_M 24 tb_gr_couples pl_gr (1, sw_gr_couples, oG) := ⟨te_gr_couples, pk_gr, tx_gr_couples oG, rfl⟩
def tb_gr_bestPush : gk_T := [(0, .iconst (-1), 1, 0), (1, .istore 4, 3, 0), (3, .iconst (-1), 4, 0), (4, .istore 5, 6, 0), (6, .iconst 0, 7, 0), (7, .istore 6, 9, 0), (9, .iload 6, 11, 0), (11, .sipush 225, 14, 0), (14, .if_icmp .ge 33, 17, 47), (17, .lload_n 0, 18, 0), (18, .lload_n 2, 19, 0), (19, .iload 6, 21, 0), (21, .invokestatic 79, 24, 0), (24, .istore 7, 26, 0), (26, .iload 7, 28, 0), (28, .iload 4, 30, 0), (30, .if_icmp .le 11, 33, 41), (33, .iload 7, 35, 0), (35, .istore 4, 37, 0), (37, .iload 6, 39, 0), (39, .istore 5, 41, 0), (41, .iinc 6 1, 44, 0), (44, .goto (-35), 47, 9), (47, .iload 5, 49, 0), (49, .ireturn, 50, 0)]
def sw_gr_bestPush : List (Nat × List (Int32 × Nat) × Nat) := []
set_option maxRecDepth 100000 in
theorem te_gr_bestPush : ∀ q ∈ tb_gr_bestPush, gk_eok (gk_M 25).2.1 q = true := by decide +kernel
set_option maxRecDepth 100000 in
theorem tx_gr_bestPush (oG : List (Nat × gk_G)) : ∀ q ∈ tb_gr_bestPush, gk_xok "DryPlaces$Ground" pl_gr (1, sw_gr_bestPush, oG) q := by
  have h : tb_gr_bestPush.all (fun q => gk_xokb "DryPlaces$Ground" pl_gr sw_gr_bestPush q) = true := by decide +kernel
  exact fun q hq => gk_xok_of (List.all_eq_true.mp h q hq)
theorem ok_gr_bestPush (oG : List (Nat × gk_G)) : gk_ok gk_M 25 tb_gr_bestPush pl_gr (1, sw_gr_bestPush, oG) := ⟨te_gr_bestPush, pk_gr, tx_gr_bestPush oG, rfl⟩
def tb_gr_fewestSteps : gk_T := [(0, .lconst 1, 1, 0), (1, .iload_n 2, 2, 0), (2, .lshl, 3, 0), (3, .lstore 4, 5, 0), (5, .iconst 0, 6, 0), (6, .istore 6, 8, 0), (8, .iload 6, 10, 0), (10, .bipush 64, 12, 0), (12, .if_icmp .ge 33, 15, 45), (15, .lload 4, 17, 0), (17, .iload_n 3, 18, 0), (18, .invokestatic 54, 21, 0), (21, .ifCond .eq 6, 24, 27), (24, .iload 6, 26, 0), (26, .ireturn, 27, 0), (27, .lload 4, 29, 0), (29, .lload 4, 31, 0), (31, .invokestatic 38, 34, 0), (34, .lload_n 0, 35, 0), (35, .land, 36, 0), (36, .lor, 37, 0), (37, .lstore 4, 39, 0), (39, .iinc 6 1, 42, 0), (42, .goto (-34), 45, 8), (45, .iconst (-1), 46, 0), (46, .ireturn, 47, 0)]
def sw_gr_fewestSteps : List (Nat × List (Int32 × Nat) × Nat) := []
set_option maxRecDepth 100000 in
theorem te_gr_fewestSteps : ∀ q ∈ tb_gr_fewestSteps, gk_eok (gk_M 26).2.1 q = true := by decide +kernel
set_option maxRecDepth 100000 in
theorem tx_gr_fewestSteps (oG : List (Nat × gk_G)) : ∀ q ∈ tb_gr_fewestSteps, gk_xok "DryPlaces$Ground" pl_gr (1, sw_gr_fewestSteps, oG) q := by
  have h : tb_gr_fewestSteps.all (fun q => gk_xokb "DryPlaces$Ground" pl_gr sw_gr_fewestSteps q) = true := by decide +kernel
  exact fun q hq => gk_xok_of (List.all_eq_true.mp h q hq)
theorem ok_gr_fewestSteps (oG : List (Nat × gk_G)) : gk_ok gk_M 26 tb_gr_fewestSteps pl_gr (1, sw_gr_fewestSteps, oG) := ⟨te_gr_fewestSteps, pk_gr, tx_gr_fewestSteps oG, rfl⟩
def tb_gr_fewestTurnings : gk_T := [(0, .lconst 1, 1, 0), (1, .iload_n 2, 2, 0), (2, .lshl, 3, 0), (3, .lload_n 0, 4, 0), (4, .invokestatic 83, 7, 0), (7, .lstore 4, 9, 0), (9, .iconst 0, 10, 0), (10, .istore 6, 12, 0), (12, .iload 6, 14, 0), (14, .bipush 64, 16, 0), (16, .if_icmp .ge 29, 19, 45), (19, .lload 4, 21, 0), (21, .iload_n 3, 22, 0), (22, .invokestatic 54, 25, 0), (25, .ifCond .eq 6, 28, 31), (28, .iload 6, 30, 0), (30, .ireturn, 31, 0), (31, .lload 4, 33, 0), (33, .lload_n 0, 34, 0), (34, .invokestatic 83, 37, 0), (37, .lstore 4, 39, 0), (39, .iinc 6 1, 42, 0), (42, .goto (-30), 45, 12), (45, .iconst (-1), 46, 0), (46, .ireturn, 47, 0)]
def sw_gr_fewestTurnings : List (Nat × List (Int32 × Nat) × Nat) := []
set_option maxRecDepth 100000 in
theorem te_gr_fewestTurnings : ∀ q ∈ tb_gr_fewestTurnings, gk_eok (gk_M 27).2.1 q = true := by decide +kernel
set_option maxRecDepth 100000 in
theorem tx_gr_fewestTurnings (oG : List (Nat × gk_G)) : ∀ q ∈ tb_gr_fewestTurnings, gk_xok "DryPlaces$Ground" pl_gr (1, sw_gr_fewestTurnings, oG) q := by
  have h : tb_gr_fewestTurnings.all (fun q => gk_xokb "DryPlaces$Ground" pl_gr sw_gr_fewestTurnings q) = true := by decide +kernel
  exact fun q hq => gk_xok_of (List.all_eq_true.mp h q hq)
theorem ok_gr_fewestTurnings (oG : List (Nat × gk_G)) : gk_ok gk_M 27 tb_gr_fewestTurnings pl_gr (1, sw_gr_fewestTurnings, oG) := ⟨te_gr_fewestTurnings, pk_gr, tx_gr_fewestTurnings oG, rfl⟩
def tb_gr_straightFrom : gk_T := [(0, .lload_n 0, 1, 0), (1, .lstore 4, 3, 0), (3, .lload_n 0, 4, 0), (4, .lstore 6, 6, 0), (6, .lload_n 0, 7, 0), (7, .lstore 8, 9, 0), (9, .lload_n 0, 10, 0), (10, .lstore 10, 12, 0), (12, .iconst 1, 13, 0), (13, .istore 12, 15, 0), (15, .iload 12, 17, 0), (17, .bipush 8, 19, 0), (19, .if_icmp .ge 57, 22, 76), (22, .lload 4, 24, 0), (24, .lload 4, 26, 0), (26, .invokestatic 19, 29, 0), (29, .lload_n 2, 30, 0), (30, .land, 31, 0), (31, .lor, 32, 0), (32, .lstore 4, 34, 0), (34, .lload 6, 36, 0), (36, .lload 6, 38, 0), (38, .invokestatic 23, 41, 0), (41, .lload_n 2, 42, 0), (42, .land, 43, 0), (43, .lor, 44, 0), (44, .lstore 6, 46, 0), (46, .lload 8, 48, 0), (48, .lload 8, 50, 0), (50, .invokestatic 26, 53, 0), (53, .lload_n 2, 54, 0), (54, .land, 55, 0), (55, .lor, 56, 0), (56, .lstore 8, 58, 0), (58, .lload 10, 60, 0), (60, .lload 10, 62, 0), (62, .invokestatic 29, 65, 0), (65, .lload_n 2, 66, 0), (66, .land, 67, 0), (67, .lor, 68, 0), (68, .lstore 10, 70, 0), (70, .iinc 12 1, 73, 0), (73, .goto (-58), 76, 15), (76, .lload 4, 78, 0), (78, .lload 6, 80, 0), (80, .lor, 81, 0), (81, .lload 8, 83, 0), (83, .lor, 84, 0), (84, .lload 10, 86, 0), (86, .lor, 87, 0), (87, .lreturn, 88, 0)]
def sw_gr_straightFrom : List (Nat × List (Int32 × Nat) × Nat) := []
set_option maxRecDepth 100000 in
theorem te_gr_straightFrom : ∀ q ∈ tb_gr_straightFrom, gk_eok (gk_M 28).2.1 q = true := by decide +kernel
set_option maxRecDepth 100000 in
theorem tx_gr_straightFrom (oG : List (Nat × gk_G)) : ∀ q ∈ tb_gr_straightFrom, gk_xok "DryPlaces$Ground" pl_gr (2, sw_gr_straightFrom, oG) q := by
  have h : tb_gr_straightFrom.all (fun q => gk_xokb "DryPlaces$Ground" pl_gr sw_gr_straightFrom q) = true := by decide +kernel
  exact fun q hq => gk_xok_of (List.all_eq_true.mp h q hq)
theorem ok_gr_straightFrom (oG : List (Nat × gk_G)) : gk_ok gk_M 28 tb_gr_straightFrom pl_gr (2, sw_gr_straightFrom, oG) := ⟨te_gr_straightFrom, pk_gr, tx_gr_straightFrom oG, rfl⟩
def tb_gr_sumOf : gk_T := [(0, .iload_n 2, 1, 0), (1, .bipush 8, 3, 0), (3, .if_icmp .ge 14, 6, 17), (6, .ldc2_w 11, 9, 0), (9, .bipush 8, 11, 0), (11, .iload_n 2, 12, 0), (12, .imul, 13, 0), (13, .lshl, 14, 0), (14, .goto 11, 17, 25), (17, .ldc2_w 62, 20, 0), (20, .iload_n 2, 21, 0), (21, .bipush 8, 23, 0), (23, .isub, 24, 0), (24, .lshl, 25, 0), (25, .lstore_n 3, 26, 0), (26, .lload_n 0, 27, 0), (27, .lload_n 3, 28, 0), (28, .land, 29, 0), (29, .invokestatic 32, 32, 0), (32, .ireturn, 33, 0)]
def sw_gr_sumOf : List (Nat × List (Int32 × Nat) × Nat) := []
set_option maxRecDepth 100000 in
theorem te_gr_sumOf : ∀ q ∈ tb_gr_sumOf, gk_eok (gk_M 29).2.1 q = true := by decide +kernel
set_option maxRecDepth 100000 in
theorem tx_gr_sumOf (oG : List (Nat × gk_G)) : ∀ q ∈ tb_gr_sumOf, gk_xok "DryPlaces$Ground" pl_gr (1, sw_gr_sumOf, oG) q := by
  have h : tb_gr_sumOf.all (fun q => gk_xokb "DryPlaces$Ground" pl_gr sw_gr_sumOf q) = true := by decide +kernel
  exact fun q hq => gk_xok_of (List.all_eq_true.mp h q hq)
theorem ok_gr_sumOf (oG : List (Nat × gk_G)) : gk_ok gk_M 29 tb_gr_sumOf pl_gr (1, sw_gr_sumOf, oG) := ⟨te_gr_sumOf, pk_gr, tx_gr_sumOf oG, rfl⟩
def tb_gr_hasSameSums : gk_T := [(0, .iconst 0, 1, 0), (1, .istore 4, 3, 0), (3, .iload 4, 5, 0), (5, .bipush 16, 7, 0), (7, .if_icmp .ge 26, 10, 33), (10, .lload_n 0, 11, 0), (11, .iload 4, 13, 0), (13, .invokestatic 86, 16, 0), (16, .lload_n 2, 17, 0), (17, .iload 4, 19, 0), (19, .invokestatic 86, 22, 0), (22, .if_icmp .eq 5, 25, 27), (25, .iconst 0, 26, 0), (26, .ireturn, 27, 0), (27, .iinc 4 1, 30, 0), (30, .goto (-27), 33, 3), (33, .iconst 1, 34, 0), (34, .ireturn, 35, 0)]
def sw_gr_hasSameSums : List (Nat × List (Int32 × Nat) × Nat) := []
set_option maxRecDepth 100000 in
theorem te_gr_hasSameSums : ∀ q ∈ tb_gr_hasSameSums, gk_eok (gk_M 30).2.1 q = true := by decide +kernel
set_option maxRecDepth 100000 in
theorem tx_gr_hasSameSums (oG : List (Nat × gk_G)) : ∀ q ∈ tb_gr_hasSameSums, gk_xok "DryPlaces$Ground" pl_gr (3, sw_gr_hasSameSums, oG) q := by
  have h : tb_gr_hasSameSums.all (fun q => gk_xokb "DryPlaces$Ground" pl_gr sw_gr_hasSameSums q) = true := by decide +kernel
  exact fun q hq => gk_xok_of (List.all_eq_true.mp h q hq)
theorem ok_gr_hasSameSums (oG : List (Nat × gk_G)) : gk_ok gk_M 30 tb_gr_hasSameSums pl_gr (3, sw_gr_hasSameSums, oG) := ⟨te_gr_hasSameSums, pk_gr, tx_gr_hasSameSums oG, rfl⟩
def tb_gr_firstSwitch : gk_T := [(0, .iconst 0, 1, 0), (1, .istore_n 2, 2, 0), (2, .iload_n 2, 3, 0), (3, .bipush 8, 5, 0), (5, .if_icmp .ge 60, 8, 65), (8, .iload_n 2, 9, 0), (9, .iconst 1, 10, 0), (10, .iadd, 11, 0), (11, .istore_n 3, 12, 0), (12, .iload_n 3, 13, 0), (13, .bipush 8, 15, 0), (15, .if_icmp .ge 44, 18, 59), (18, .lload_n 0, 19, 0), (19, .iload_n 2, 20, 0), (20, .invokestatic 90, 23, 0), (23, .lload_n 0, 24, 0), (24, .iload_n 3, 25, 0), (25, .invokestatic 90, 28, 0), (28, .invokestatic 93, 31, 0), (31, .istore 4, 33, 0), (33, .iload 4, 35, 0), (35, .iconst (-1), 36, 0), (36, .if_icmp .eq 17, 39, 53), (39, .sipush 1000, 42, 0), (42, .iload_n 2, 43, 0), (43, .imul, 44, 0), (44, .bipush 100, 46, 0), (46, .iload_n 3, 47, 0), (47, .imul, 48, 0), (48, .iadd, 49, 0), (49, .iload 4, 51, 0), (51, .iadd, 52, 0), (52, .ireturn, 53, 0), (53, .iinc 3 1, 56, 0), (56, .goto (-44), 59, 12), (59, .iinc 2 1, 62, 0), (62, .goto (-60), 65, 2), (65, .iconst (-1), 66, 0), (66, .ireturn, 67, 0)]
def sw_gr_firstSwitch : List (Nat × List (Int32 × Nat) × Nat) := []
set_option maxRecDepth 100000 in
theorem te_gr_firstSwitch : ∀ q ∈ tb_gr_firstSwitch, gk_eok (gk_M 31).2.1 q = true := by decide +kernel
set_option maxRecDepth 100000 in
theorem tx_gr_firstSwitch (oG : List (Nat × gk_G)) : ∀ q ∈ tb_gr_firstSwitch, gk_xok "DryPlaces$Ground" pl_gr (1, sw_gr_firstSwitch, oG) q := by
  have h : tb_gr_firstSwitch.all (fun q => gk_xokb "DryPlaces$Ground" pl_gr sw_gr_firstSwitch q) = true := by decide +kernel
  exact fun q hq => gk_xok_of (List.all_eq_true.mp h q hq)
theorem ok_gr_firstSwitch (oG : List (Nat × gk_G)) : gk_ok gk_M 31 tb_gr_firstSwitch pl_gr (1, sw_gr_firstSwitch, oG) := ⟨te_gr_firstSwitch, pk_gr, tx_gr_firstSwitch oG, rfl⟩
def tb_gr_switchColumns : gk_T := [(0, .iload_n 0, 1, 0), (1, .iload_n 1, 2, 0), (2, .ixor, 3, 0), (3, .istore_n 2, 4, 0), (4, .iconst 0, 5, 0), (5, .istore_n 3, 6, 0), (6, .iload_n 3, 7, 0), (7, .bipush 8, 9, 0), (9, .if_icmp .ge 74, 12, 83), (12, .iload_n 3, 13, 0), (13, .iconst 1, 14, 0), (14, .iadd, 15, 0), (15, .istore 4, 17, 0), (17, .iload 4, 19, 0), (19, .bipush 8, 21, 0), (21, .if_icmp .ge 56, 24, 77), (24, .iload_n 2, 25, 0), (25, .iload_n 3, 26, 0), (26, .ishr, 27, 0), (27, .iload_n 2, 28, 0), (28, .iload 4, 30, 0), (30, .ishr, 31, 0), (31, .iand, 32, 0), (32, .iconst 1, 33, 0), (33, .iand, 34, 0), (34, .ifCond .eq 7, 37, 41), (37, .iconst 1, 38, 0), (38, .goto 4, 41, 42), (41, .iconst 0, 42, 0), (42, .istore 5, 44, 0), (44, .iload 5, 46, 0), (46, .ifCond .eq 25, 49, 71), (49, .iload_n 0, 50, 0), (50, .iload_n 3, 51, 0), (51, .ishr, 52, 0), (52, .iconst 1, 53, 0), (53, .iand, 54, 0), (54, .iload_n 0, 55, 0), (55, .iload 4, 57, 0), (57, .ishr, 58, 0), (58, .iconst 1, 59, 0), (59, .iand, 60, 0), (60, .if_icmp .eq 11, 63, 71), (63, .bipush 10, 65, 0), (65, .iload_n 3, 66, 0), (66, .imul, 67, 0), (67, .iload 4, 69, 0), (69, .iadd, 70, 0), (70, .ireturn, 71, 0), (71, .iinc 4 1, 74, 0), (74, .goto (-57), 77, 17), (77, .iinc 3 1, 80, 0), (80, .goto (-74), 83, 6), (83, .iconst (-1), 84, 0), (84, .ireturn, 85, 0)]
def sw_gr_switchColumns : List (Nat × List (Int32 × Nat) × Nat) := []
set_option maxRecDepth 100000 in
theorem te_gr_switchColumns : ∀ q ∈ tb_gr_switchColumns, gk_eok (gk_M 32).2.1 q = true := by decide +kernel
set_option maxRecDepth 100000 in
theorem tx_gr_switchColumns (oG : List (Nat × gk_G)) : ∀ q ∈ tb_gr_switchColumns, gk_xok "DryPlaces$Ground" pl_gr (1, sw_gr_switchColumns, oG) q := by
  have h : tb_gr_switchColumns.all (fun q => gk_xokb "DryPlaces$Ground" pl_gr sw_gr_switchColumns q) = true := by decide +kernel
  exact fun q hq => gk_xok_of (List.all_eq_true.mp h q hq)
theorem ok_gr_switchColumns (oG : List (Nat × gk_G)) : gk_ok gk_M 32 tb_gr_switchColumns pl_gr (1, sw_gr_switchColumns, oG) := ⟨te_gr_switchColumns, pk_gr, tx_gr_switchColumns oG, rfl⟩
def tb_gr_isLie : gk_T := [(0, .iload_n 2, 1, 0), (1, .iload_n 3, 2, 0), (2, .if_icmp .eq 19, 5, 21), (5, .lload_n 0, 6, 0), (6, .iload_n 2, 7, 0), (7, .invokestatic 54, 10, 0), (10, .ifCond .eq 11, 13, 21), (13, .lload_n 0, 14, 0), (14, .iload_n 3, 15, 0), (15, .invokestatic 54, 18, 0), (18, .ifCond .ne 5, 21, 23), (21, .iconst 1, 22, 0), (22, .ireturn, 23, 0), (23, .iload_n 2, 24, 0), (24, .bipush 8, 26, 0), (26, .idiv, 27, 0), (27, .iload_n 3, 28, 0), (28, .bipush 8, 30, 0), (30, .idiv, 31, 0), (31, .isub, 32, 0), (32, .invokestatic 96, 35, 0), (35, .istore 4, 37, 0), (37, .iload_n 2, 38, 0), (38, .bipush 8, 40, 0), (40, .irem, 41, 0), (41, .iload_n 3, 42, 0), (42, .bipush 8, 44, 0), (44, .irem, 45, 0), (45, .isub, 46, 0), (46, .invokestatic 96, 49, 0), (49, .istore 5, 51, 0), (51, .iload 4, 53, 0), (53, .iload 5, 55, 0), (55, .iadd, 56, 0), (56, .iconst 4, 57, 0), (57, .if_icmp .gt 17, 60, 74), (60, .lload_n 0, 61, 0), (61, .lconst 1, 62, 0), (62, .iload_n 2, 63, 0), (63, .lshl, 64, 0), (64, .invokestatic 41, 67, 0), (67, .iload_n 3, 68, 0), (68, .invokestatic 54, 71, 0), (71, .ifCond .ne 7, 74, 78), (74, .iconst 1, 75, 0), (75, .goto 4, 78, 79), (78, .iconst 0, 79, 0), (79, .ireturn, 80, 0)]
def sw_gr_isLie : List (Nat × List (Int32 × Nat) × Nat) := []
set_option maxRecDepth 100000 in
theorem te_gr_isLie : ∀ q ∈ tb_gr_isLie, gk_eok (gk_M 33).2.1 q = true := by decide +kernel
set_option maxRecDepth 100000 in
theorem tx_gr_isLie (oG : List (Nat × gk_G)) : ∀ q ∈ tb_gr_isLie, gk_xok "DryPlaces$Ground" pl_gr (3, sw_gr_isLie, oG) q := by
  have h : tb_gr_isLie.all (fun q => gk_xokb "DryPlaces$Ground" pl_gr sw_gr_isLie q) = true := by decide +kernel
  exact fun q hq => gk_xok_of (List.all_eq_true.mp h q hq)
theorem ok_gr_isLie (oG : List (Nat × gk_G)) : gk_ok gk_M 33 tb_gr_isLie pl_gr (3, sw_gr_isLie, oG) := ⟨te_gr_isLie, pk_gr, tx_gr_isLie oG, rfl⟩
def tb_gr_standings : gk_T := [(0, .iconst 0, 1, 0), (1, .istore_n 2, 2, 0), (2, .iconst 0, 3, 0), (3, .istore_n 3, 4, 0), (4, .iload_n 3, 5, 0), (5, .bipush 64, 7, 0), (7, .if_icmp .ge 35, 10, 42), (10, .lload_n 0, 11, 0), (11, .iload_n 3, 12, 0), (12, .invokestatic 54, 15, 0), (15, .ifCond .eq 21, 18, 36), (18, .iload_n 2, 19, 0), (19, .iload_n 3, 20, 0), (20, .invokestatic 102, 23, 0), (23, .lload_n 0, 24, 0), (24, .lconst 1, 25, 0), (25, .iload_n 3, 26, 0), (26, .lshl, 27, 0), (27, .invokestatic 41, 30, 0), (30, .land, 31, 0), (31, .invokestatic 32, 34, 0), (34, .iadd, 35, 0), (35, .istore_n 2, 36, 0), (36, .iinc 3 1, 39, 0), (39, .goto (-35), 42, 4), (42, .iload_n 2, 43, 0), (43, .ireturn, 44, 0)]
def sw_gr_standings : List (Nat × List (Int32 × Nat) × Nat) := []
set_option maxRecDepth 100000 in
theorem te_gr_standings : ∀ q ∈ tb_gr_standings, gk_eok (gk_M 34).2.1 q = true := by decide +kernel
set_option maxRecDepth 100000 in
theorem tx_gr_standings (oG : List (Nat × gk_G)) : ∀ q ∈ tb_gr_standings, gk_xok "DryPlaces$Ground" pl_gr (1, sw_gr_standings, oG) q := by
  have h : tb_gr_standings.all (fun q => gk_xokb "DryPlaces$Ground" pl_gr sw_gr_standings q) = true := by decide +kernel
  exact fun q hq => gk_xok_of (List.all_eq_true.mp h q hq)
theorem ok_gr_standings (oG : List (Nat × gk_G)) : gk_ok gk_M 34 tb_gr_standings pl_gr (1, sw_gr_standings, oG) := ⟨te_gr_standings, pk_gr, tx_gr_standings oG, rfl⟩
def tb_gr_rightHeels : gk_T := [(0, .lconst 1, 1, 0), (1, .iload_n 0, 2, 0), (2, .lshl, 3, 0), (3, .lstore_n 1, 4, 0), (4, .lconst 0, 5, 0), (5, .lstore_n 3, 6, 0), (6, .iconst 1, 7, 0), (7, .istore 5, 9, 0), (9, .iload 5, 11, 0), (11, .iconst 4, 12, 0), (12, .if_icmp .ge 28, 15, 40), (15, .lload_n 1, 16, 0), (16, .invokestatic 29, 19, 0), (19, .lstore_n 1, 20, 0), (20, .lload_n 3, 21, 0), (21, .lload_n 1, 22, 0), (22, .lload_n 1, 23, 0), (23, .invokestatic 19, 26, 0), (26, .lor, 27, 0), (27, .lload_n 1, 28, 0), (28, .invokestatic 23, 31, 0), (31, .lor, 32, 0), (32, .lor, 33, 0), (33, .lstore_n 3, 34, 0), (34, .iinc 5 1, 37, 0), (37, .goto (-28), 40, 9), (40, .lload_n 3, 41, 0), (41, .lload_n 1, 42, 0), (42, .invokestatic 29, 45, 0), (45, .lor, 46, 0), (46, .lreturn, 47, 0)]
def sw_gr_rightHeels : List (Nat × List (Int32 × Nat) × Nat) := []
set_option maxRecDepth 100000 in
theorem te_gr_rightHeels : ∀ q ∈ tb_gr_rightHeels, gk_eok (gk_M 35).2.1 q = true := by decide +kernel
set_option maxRecDepth 100000 in
theorem tx_gr_rightHeels (oG : List (Nat × gk_G)) : ∀ q ∈ tb_gr_rightHeels, gk_xok "DryPlaces$Ground" pl_gr (2, sw_gr_rightHeels, oG) q := by
  have h : tb_gr_rightHeels.all (fun q => gk_xokb "DryPlaces$Ground" pl_gr sw_gr_rightHeels q) = true := by decide +kernel
  exact fun q hq => gk_xok_of (List.all_eq_true.mp h q hq)
theorem ok_gr_rightHeels (oG : List (Nat × gk_G)) : gk_ok gk_M 35 tb_gr_rightHeels pl_gr (2, sw_gr_rightHeels, oG) := ⟨te_gr_rightHeels, pk_gr, tx_gr_rightHeels oG, rfl⟩
def tb_ke_init : gk_T := [(0, .aload_n 0, 1, 0), (1, .invokespecial 3, 4, 0), (4, .aload_n 0, 5, 0), (5, .iconst 5, 6, 0), (6, .newarray .int, 8, 0), (8, .putfield 9, 11, 0), (11, .aload_n 0, 12, 0), (12, .aload_n 1, 13, 0), (13, .putfield 15, 16, 0), (16, .aload_n 0, 17, 0), (17, .aload_n 2, 18, 0), (18, .putfield 19, 21, 0), (21, .aload_n 0, 22, 0), (22, .aload_n 3, 23, 0), (23, .putfield 23, 26, 0), (26, .aload_n 0, 27, 0), (27, .aload 4, 29, 0), (29, .putfield 27, 32, 0), (32, .return_, 33, 0)]
def sw_ke_init : List (Nat × List (Int32 × Nat) × Nat) := []
set_option maxRecDepth 100000 in
theorem te_ke_init : ∀ q ∈ tb_ke_init, gk_eok (gk_M 36).2.1 q = true := by decide +kernel
set_option maxRecDepth 100000 in
theorem tx_ke_init (oG : List (Nat × gk_G)) : ∀ q ∈ tb_ke_init, gk_xok "DryPlaces$Keeper" pl_ke (0, sw_ke_init, oG) q := by
  have h : tb_ke_init.all (fun q => gk_xokb "DryPlaces$Keeper" pl_ke sw_ke_init q) = true := by decide +kernel
  exact fun q hq => gk_xok_of (List.all_eq_true.mp h q hq)
theorem ok_ke_init (oG : List (Nat × gk_G)) : gk_ok gk_M 36 tb_ke_init pl_ke (0, sw_ke_init, oG) := ⟨te_ke_init, pk_ke, tx_ke_init oG, rfl⟩
def tb_ke_canDo : gk_T := [(0, .iload_n 1, 1, 0), (1, .iconst 3, 2, 0), (2, .if_icmp .ne 26, 5, 28), (5, .iload_n 2, 6, 0), (6, .invokestatic 30, 9, 0), (9, .ifCond .eq 17, 12, 26), (12, .iload_n 3, 13, 0), (13, .iconst 0, 14, 0), (14, .bipush 9, 16, 0), (16, .invokestatic 34, 19, 0), (19, .ifCond .eq 7, 22, 26), (22, .iconst 1, 23, 0), (23, .goto 4, 26, 27), (26, .iconst 0, 27, 0), (27, .ireturn, 28, 0), (28, .aload_n 0, 29, 0), (29, .getfield 15, 32, 0), (32, .iload_n 2, 33, 0), (33, .invokevirtual 38, 36, 0), (36, .ifCond .ne 5, 39, 41), (39, .iconst 0, 40, 0), (40, .ireturn, 41, 0), (41, .iload_n 1, 42, 0), (42, .tableswitch 158 0 5 #[38, 77, 86, 158, 110, 118], 80, 0), (80, .aload_n 0, 81, 0), (81, .getfield 15, 84, 0), (84, .iload_n 2, 85, 0), (85, .invokevirtual 43, 88, 0), (88, .ifCond .ne 29, 91, 117), (91, .aload_n 0, 92, 0), (92, .getfield 23, 95, 0), (95, .aload_n 0, 96, 0), (96, .getfield 15, 99, 0), (99, .iload_n 2, 100, 0), (100, .invokevirtual 46, 103, 0), (103, .aload_n 0, 104, 0), (104, .getfield 15, 107, 0), (107, .getfield 52, 110, 0), (110, .if_icmp .gt 7, 113, 117), (113, .iconst 1, 114, 0), (114, .goto 4, 117, 118), (117, .iconst 0, 118, 0), (118, .ireturn, 119, 0), (119, .aload_n 0, 120, 0), (120, .getfield 15, 123, 0), (123, .iload_n 2, 124, 0), (124, .invokevirtual 43, 127, 0), (127, .ireturn, 128, 0), (128, .aload_n 0, 129, 0), (129, .getfield 15, 132, 0), (132, .iload_n 2, 133, 0), (133, .invokevirtual 43, 136, 0), (136, .ifCond .eq 14, 139, 150), (139, .iload_n 3, 140, 0), (140, .invokestatic 30, 143, 0), (143, .ifCond .eq 7, 146, 150), (146, .iconst 1, 147, 0), (147, .goto 4, 150, 151), (150, .iconst 0, 151, 0), (151, .ireturn, 152, 0), (152, .iload_n 3, 153, 0), (153, .iconst 0, 154, 0), (154, .bipush 7, 156, 0), (156, .invokestatic 34, 159, 0), (159, .ireturn, 160, 0), (160, .aload_n 0, 161, 0), (161, .getfield 15, 164, 0), (164, .iload_n 2, 165, 0), (165, .invokevirtual 43, 168, 0), (168, .ifCond .eq 30, 171, 198), (171, .iload_n 3, 172, 0), (172, .invokestatic 56, 175, 0), (175, .ifCond .eq 23, 178, 198), (178, .aload_n 0, 179, 0), (179, .getfield 15, 182, 0), (182, .getfield 59, 185, 0), (185, .iload_n 2, 186, 0), (186, .laload, 187, 0), (187, .iload_n 3, 188, 0), (188, .invokestatic 63, 191, 0), (191, .ifCond .eq 7, 194, 198), (194, .iconst 1, 195, 0), (195, .goto 4, 198, 199), (198, .iconst 0, 199, 0), (199, .ireturn, 200, 0), (200, .iconst 0, 201, 0), (201, .ireturn, 202, 0)]
def sw_ke_canDo : List (Nat × List (Int32 × Nat) × Nat) := [(42, [(0, 80), (1, 119), (2, 128), (3, 200), (4, 152), (5, 160)], 200)]
set_option maxRecDepth 100000 in
theorem te_ke_canDo : ∀ q ∈ tb_ke_canDo, gk_eok (gk_M 37).2.1 q = true := by decide +kernel
set_option maxRecDepth 100000 in
theorem tx_ke_canDo (oG : List (Nat × gk_G)) : ∀ q ∈ tb_ke_canDo, gk_xok "DryPlaces$Keeper" pl_ke (3, sw_ke_canDo, oG) q := by
  have h : tb_ke_canDo.all (fun q => gk_xokb "DryPlaces$Keeper" pl_ke sw_ke_canDo q) = true := by decide +kernel
  exact fun q hq => gk_xok_of (List.all_eq_true.mp h q hq)
theorem ok_ke_canDo (oG : List (Nat × gk_G)) : gk_ok gk_M 37 tb_ke_canDo pl_ke (3, sw_ke_canDo, oG) := ⟨te_ke_canDo, pk_ke, tx_ke_canDo oG, rfl⟩
def tb_ke_carryOut : gk_T := [(0, .iload_n 1, 1, 0), (1, .tableswitch 182 0 5 #[39, 59, 79, 99, 112, 160], 40, 0), (40, .aload_n 0, 41, 0), (41, .iload_n 2, 42, 0), (42, .aload_n 0, 43, 0), (43, .getfield 23, 46, 0), (46, .aload_n 0, 47, 0), (47, .getfield 15, 50, 0), (50, .iload_n 2, 51, 0), (51, .invokevirtual 46, 54, 0), (54, .invokevirtual 69, 57, 0), (57, .goto 126, 60, 183), (60, .aload_n 0, 61, 0), (61, .iload_n 2, 62, 0), (62, .aload_n 0, 63, 0), (63, .getfield 23, 66, 0), (66, .aload_n 0, 67, 0), (67, .getfield 15, 70, 0), (70, .iload_n 2, 71, 0), (71, .invokevirtual 46, 74, 0), (74, .invokevirtual 73, 77, 0), (77, .goto 106, 80, 183), (80, .aload_n 0, 81, 0), (81, .getfield 15, 84, 0), (84, .getfield 76, 87, 0), (87, .iload_n 2, 88, 0), (88, .iload_n 3, 89, 0), (89, .iastore, 90, 0), (90, .aload_n 0, 91, 0), (91, .iconst 2, 92, 0), (92, .iload_n 2, 93, 0), (93, .iload_n 3, 94, 0), (94, .invokevirtual 79, 97, 0), (97, .goto 86, 100, 183), (100, .aload_n 0, 101, 0), (101, .getfield 15, 104, 0), (104, .getfield 83, 107, 0), (107, .iload_n 2, 108, 0), (108, .iload_n 3, 109, 0), (109, .iastore, 110, 0), (110, .goto 73, 113, 183), (113, .aload_n 0, 114, 0), (114, .getfield 15, 117, 0), (117, .dup, 118, 0), (118, .getfield 86, 121, 0), (121, .iconst 1, 122, 0), (122, .iload_n 2, 123, 0), (123, .ishl, 124, 0), (124, .ior, 125, 0), (125, .putfield 86, 128, 0), (128, .aload_n 0, 129, 0), (129, .getfield 15, 132, 0), (132, .getfield 59, 135, 0), (135, .iload_n 2, 136, 0), (136, .aload_n 0, 137, 0), (137, .getfield 15, 140, 0), (140, .getfield 59, 143, 0), (143, .iload_n 2, 144, 0), (144, .laload, 145, 0), (145, .iload_n 3, 146, 0), (146, .iconst 0, 147, 0), (147, .invokestatic 89, 150, 0), (150, .lastore, 151, 0), (151, .aload_n 0, 152, 0), (152, .iconst 3, 153, 0), (153, .iload_n 2, 154, 0), (154, .iload_n 3, 155, 0), (155, .invokevirtual 79, 158, 0), (158, .goto 25, 161, 183), (161, .aload_n 0, 162, 0), (162, .getfield 15, 165, 0), (165, .getfield 59, 168, 0), (168, .iload_n 2, 169, 0), (169, .dup2, 170, 0), (170, .laload, 171, 0), (171, .lconst 1, 172, 0), (172, .iload_n 3, 173, 0), (173, .lshl, 174, 0), (174, .ldc2_w 93, 177, 0), (177, .lxor, 178, 0), (178, .land, 179, 0), (179, .lastore, 180, 0), (180, .goto 3, 183, 183), (183, .return_, 184, 0)]
def sw_ke_carryOut : List (Nat × List (Int32 × Nat) × Nat) := [(1, [(0, 40), (1, 60), (2, 80), (3, 100), (4, 113), (5, 161)], 183)]
set_option maxRecDepth 100000 in
theorem te_ke_carryOut : ∀ q ∈ tb_ke_carryOut, gk_eok (gk_M 38).2.1 q = true := by decide +kernel
set_option maxRecDepth 100000 in
theorem tx_ke_carryOut (oG : List (Nat × gk_G)) : ∀ q ∈ tb_ke_carryOut, gk_xok "DryPlaces$Keeper" pl_ke (0, sw_ke_carryOut, oG) q := by
  have h : tb_ke_carryOut.all (fun q => gk_xokb "DryPlaces$Keeper" pl_ke sw_ke_carryOut q) = true := by decide +kernel
  exact fun q hq => gk_xok_of (List.all_eq_true.mp h q hq)
theorem ok_ke_carryOut (oG : List (Nat × gk_G)) : gk_ok gk_M 38 tb_ke_carryOut pl_ke (0, sw_ke_carryOut, oG) := ⟨te_ke_carryOut, pk_ke, tx_ke_carryOut oG, rfl⟩
def tb_ke_purchase : gk_T := [(0, .aload_n 0, 1, 0), (1, .getfield 15, 4, 0), (4, .dup, 5, 0), (5, .getfield 52, 8, 0), (8, .iload_n 2, 9, 0), (9, .isub, 10, 0), (10, .putfield 52, 13, 0), (13, .aload_n 0, 14, 0), (14, .getfield 15, 17, 0), (17, .getfield 95, 20, 0), (20, .iload_n 1, 21, 0), (21, .iload_n 2, 22, 0), (22, .iastore, 23, 0), (23, .aload_n 0, 24, 0), (24, .getfield 15, 27, 0), (27, .dup, 28, 0), (28, .getfield 98, 31, 0), (31, .iconst 1, 32, 0), (32, .iload_n 1, 33, 0), (33, .ishl, 34, 0), (34, .ior, 35, 0), (35, .putfield 98, 38, 0), (38, .aload_n 0, 39, 0), (39, .iconst 0, 40, 0), (40, .iload_n 1, 41, 0), (41, .iload_n 2, 42, 0), (42, .invokevirtual 79, 45, 0), (45, .return_, 46, 0)]
def sw_ke_purchase : List (Nat × List (Int32 × Nat) × Nat) := []
set_option maxRecDepth 100000 in
theorem te_ke_purchase : ∀ q ∈ tb_ke_purchase, gk_eok (gk_M 39).2.1 q = true := by decide +kernel
set_option maxRecDepth 100000 in
theorem tx_ke_purchase (oG : List (Nat × gk_G)) : ∀ q ∈ tb_ke_purchase, gk_xok "DryPlaces$Keeper" pl_ke (0, sw_ke_purchase, oG) q := by
  have h : tb_ke_purchase.all (fun q => gk_xokb "DryPlaces$Keeper" pl_ke sw_ke_purchase q) = true := by decide +kernel
  exact fun q hq => gk_xok_of (List.all_eq_true.mp h q hq)
theorem ok_ke_purchase (oG : List (Nat × gk_G)) : gk_ok gk_M 39 tb_ke_purchase pl_ke (0, sw_ke_purchase, oG) := ⟨te_ke_purchase, pk_ke, tx_ke_purchase oG, rfl⟩
def tb_ke_partWith : gk_T := [(0, .aload_n 0, 1, 0), (1, .getfield 15, 4, 0), (4, .iload_n 2, 5, 0), (5, .invokevirtual 101, 8, 0), (8, .aload_n 0, 9, 0), (9, .getfield 15, 12, 0), (12, .getfield 95, 15, 0), (15, .iload_n 1, 16, 0), (16, .iconst 0, 17, 0), (17, .iastore, 18, 0), (18, .aload_n 0, 19, 0), (19, .getfield 15, 22, 0), (22, .getfield 76, 25, 0), (25, .iload_n 1, 26, 0), (26, .iconst (-1), 27, 0), (27, .iastore, 28, 0), (28, .aload_n 0, 29, 0), (29, .getfield 15, 32, 0), (32, .dup, 33, 0), (33, .getfield 98, 36, 0), (36, .iconst 1, 37, 0), (37, .iload_n 1, 38, 0), (38, .ishl, 39, 0), (39, .iconst (-1), 40, 0), (40, .ixor, 41, 0), (41, .iand, 42, 0), (42, .putfield 98, 45, 0), (45, .aload_n 0, 46, 0), (46, .iconst 1, 47, 0), (47, .iload_n 1, 48, 0), (48, .iload_n 2, 49, 0), (49, .invokevirtual 79, 52, 0), (52, .return_, 53, 0)]
def sw_ke_partWith : List (Nat × List (Int32 × Nat) × Nat) := []
set_option maxRecDepth 100000 in
theorem te_ke_partWith : ∀ q ∈ tb_ke_partWith, gk_eok (gk_M 40).2.1 q = true := by decide +kernel
set_option maxRecDepth 100000 in
theorem tx_ke_partWith (oG : List (Nat × gk_G)) : ∀ q ∈ tb_ke_partWith, gk_xok "DryPlaces$Keeper" pl_ke (0, sw_ke_partWith, oG) q := by
  have h : tb_ke_partWith.all (fun q => gk_xokb "DryPlaces$Keeper" pl_ke sw_ke_partWith q) = true := by decide +kernel
  exact fun q hq => gk_xok_of (List.all_eq_true.mp h q hq)
theorem ok_ke_partWith (oG : List (Nat × gk_G)) : gk_ok gk_M 40 tb_ke_partWith pl_ke (0, sw_ke_partWith, oG) := ⟨te_ke_partWith, pk_ke, tx_ke_partWith oG, rfl⟩
def tb_ke_note : gk_T := [(0, .aload_n 0, 1, 0), (1, .getfield 27, 4, 0), (4, .ifnull 16, 7, 20), (7, .aload_n 0, 8, 0), (8, .getfield 15, 11, 0), (11, .getfield 105, 14, 0), (14, .sipush 150, 17, 0), (17, .if_icmp .lt 4, 20, 21), (20, .return_, 21, 0), (21, .aload_n 0, 22, 0), (22, .getfield 15, 25, 0), (25, .getfield 105, 28, 0), (28, .iconst 4, 29, 0), (29, .imul, 30, 0), (30, .istore 4, 32, 0), (32, .aload_n 0, 33, 0), (33, .getfield 27, 36, 0), (36, .iload 4, 38, 0), (38, .aload_n 0, 39, 0), (39, .getfield 15, 42, 0), (42, .getfield 108, 45, 0), (45, .iastore, 46, 0), (46, .aload_n 0, 47, 0), (47, .getfield 27, 50, 0), (50, .iload 4, 52, 0), (52, .iconst 1, 53, 0), (53, .iadd, 54, 0), (54, .iload_n 1, 55, 0), (55, .iastore, 56, 0), (56, .aload_n 0, 57, 0), (57, .getfield 27, 60, 0), (60, .iload 4, 62, 0), (62, .iconst 2, 63, 0), (63, .iadd, 64, 0), (64, .iload_n 2, 65, 0), (65, .iastore, 66, 0), (66, .aload_n 0, 67, 0), (67, .getfield 27, 70, 0), (70, .iload 4, 72, 0), (72, .iconst 3, 73, 0), (73, .iadd, 74, 0), (74, .iload_n 3, 75, 0), (75, .iastore, 76, 0), (76, .aload_n 0, 77, 0), (77, .getfield 15, 80, 0), (80, .dup, 81, 0), (81, .getfield 105, 84, 0), (84, .iconst 1, 85, 0), (85, .iadd, 86, 0), (86, .putfield 105, 89, 0), (89, .return_, 90, 0)]
def sw_ke_note : List (Nat × List (Int32 × Nat) × Nat) := []
set_option maxRecDepth 100000 in
theorem te_ke_note : ∀ q ∈ tb_ke_note, gk_eok (gk_M 41).2.1 q = true := by decide +kernel
set_option maxRecDepth 100000 in
theorem tx_ke_note (oG : List (Nat × gk_G)) : ∀ q ∈ tb_ke_note, gk_xok "DryPlaces$Keeper" pl_ke (0, sw_ke_note, oG) q := by
  have h : tb_ke_note.all (fun q => gk_xokb "DryPlaces$Keeper" pl_ke sw_ke_note q) = true := by decide +kernel
  exact fun q hq => gk_xok_of (List.all_eq_true.mp h q hq)
theorem ok_ke_note (oG : List (Nat × gk_G)) : gk_ok gk_M 41 tb_ke_note pl_ke (0, sw_ke_note, oG) := ⟨te_ke_note, pk_ke, tx_ke_note oG, rfl⟩
def tb_ke_passDay : gk_T := [(0, .aload_n 0, 1, 0), (1, .invokevirtual 111, 4, 0), (4, .iconst 0, 5, 0), (5, .istore_n 1, 6, 0), (6, .iconst 0, 7, 0), (7, .istore_n 2, 8, 0), (8, .iload_n 2, 9, 0), (9, .aload_n 0, 10, 0), (10, .getfield 15, 13, 0), (13, .getfield 114, 16, 0), (16, .if_icmp .ge 28, 19, 44), (19, .aload_n 0, 20, 0), (20, .getfield 15, 23, 0), (23, .iload_n 2, 24, 0), (24, .invokevirtual 117, 27, 0), (27, .ifCond .eq 11, 30, 38), (30, .iload_n 1, 31, 0), (31, .aload_n 0, 32, 0), (32, .iload_n 2, 33, 0), (33, .invokevirtual 120, 36, 0), (36, .iadd, 37, 0), (37, .istore_n 1, 38, 0), (38, .iinc 2 1, 41, 0), (41, .goto (-33), 44, 8), (44, .iconst 0, 45, 0), (45, .istore_n 2, 46, 0), (46, .iload_n 2, 47, 0), (47, .aload_n 0, 48, 0), (48, .getfield 15, 51, 0), (51, .getfield 114, 54, 0), (54, .if_icmp .ge 25, 57, 79), (57, .aload_n 0, 58, 0), (58, .getfield 15, 61, 0), (61, .iload_n 2, 62, 0), (62, .invokevirtual 117, 65, 0), (65, .ifCond .eq 8, 68, 73), (68, .aload_n 0, 69, 0), (69, .iload_n 2, 70, 0), (70, .invokevirtual 124, 73, 0), (73, .iinc 2 1, 76, 0), (76, .goto (-30), 79, 46), (79, .aload_n 0, 80, 0), (80, .getfield 15, 83, 0), (83, .dup, 84, 0), (84, .getfield 108, 87, 0), (87, .iconst 1, 88, 0), (88, .iadd, 89, 0), (89, .putfield 108, 92, 0), (92, .iload_n 1, 93, 0), (93, .ireturn, 94, 0)]
def sw_ke_passDay : List (Nat × List (Int32 × Nat) × Nat) := []
set_option maxRecDepth 100000 in
theorem te_ke_passDay : ∀ q ∈ tb_ke_passDay, gk_eok (gk_M 42).2.1 q = true := by decide +kernel
set_option maxRecDepth 100000 in
theorem tx_ke_passDay (oG : List (Nat × gk_G)) : ∀ q ∈ tb_ke_passDay, gk_xok "DryPlaces$Keeper" pl_ke (1, sw_ke_passDay, oG) q := by
  have h : tb_ke_passDay.all (fun q => gk_xokb "DryPlaces$Keeper" pl_ke sw_ke_passDay q) = true := by decide +kernel
  exact fun q hq => gk_xok_of (List.all_eq_true.mp h q hq)
theorem ok_ke_passDay (oG : List (Nat × gk_G)) : gk_ok gk_M 42 tb_ke_passDay pl_ke (1, sw_ke_passDay, oG) := ⟨te_ke_passDay, pk_ke, tx_ke_passDay oG, rfl⟩
def tb_ke_keepDiary : gk_T := [(0, .iconst 0, 1, 0), (1, .istore_n 1, 2, 0), (2, .iload_n 1, 3, 0), (3, .aload_n 0, 4, 0), (4, .getfield 19, 7, 0), (7, .iconst 2, 8, 0), (8, .invokevirtual 127, 11, 0), (11, .if_icmp .ge 91, 14, 102), (14, .iload_n 1, 15, 0), (15, .iconst 4, 16, 0), (16, .imul, 17, 0), (17, .istore_n 2, 18, 0), (18, .aload_n 0, 19, 0), (19, .getfield 19, 22, 0), (22, .getfield 131, 25, 0), (25, .iload_n 2, 26, 0), (26, .iconst 1, 27, 0), (27, .iadd, 28, 0), (28, .iaload, 29, 0), (29, .istore_n 3, 30, 0), (30, .aload_n 0, 31, 0), (31, .getfield 19, 34, 0), (34, .getfield 131, 37, 0), (37, .iload_n 2, 38, 0), (38, .iconst 2, 39, 0), (39, .iadd, 40, 0), (40, .iaload, 41, 0), (41, .istore 4, 43, 0), (43, .aload_n 0, 44, 0), (44, .getfield 19, 47, 0), (47, .getfield 131, 50, 0), (50, .iload_n 2, 51, 0), (51, .iconst 3, 52, 0), (52, .iadd, 53, 0), (53, .iaload, 54, 0), (54, .istore 5, 56, 0), (56, .aload_n 0, 57, 0), (57, .getfield 19, 60, 0), (60, .getfield 131, 63, 0), (63, .iload_n 2, 64, 0), (64, .iaload, 65, 0), (65, .aload_n 0, 66, 0), (66, .getfield 15, 69, 0), (69, .getfield 108, 72, 0), (72, .if_icmp .ne 24, 75, 96), (75, .aload_n 0, 76, 0), (76, .iload_n 3, 77, 0), (77, .iload 4, 79, 0), (79, .iload 5, 81, 0), (81, .invokevirtual 134, 84, 0), (84, .ifCond .eq 12, 87, 96), (87, .aload_n 0, 88, 0), (88, .iload_n 3, 89, 0), (89, .iload 4, 91, 0), (91, .iload 5, 93, 0), (93, .invokevirtual 137, 96, 0), (96, .iinc 1 1, 99, 0), (99, .goto (-97), 102, 2), (102, .return_, 103, 0)]
def sw_ke_keepDiary : List (Nat × List (Int32 × Nat) × Nat) := []
set_option maxRecDepth 100000 in
theorem te_ke_keepDiary : ∀ q ∈ tb_ke_keepDiary, gk_eok (gk_M 43).2.1 q = true := by decide +kernel
set_option maxRecDepth 100000 in
theorem tx_ke_keepDiary (oG : List (Nat × gk_G)) : ∀ q ∈ tb_ke_keepDiary, gk_xok "DryPlaces$Keeper" pl_ke (0, sw_ke_keepDiary, oG) q := by
  have h : tb_ke_keepDiary.all (fun q => gk_xokb "DryPlaces$Keeper" pl_ke sw_ke_keepDiary q) = true := by decide +kernel
  exact fun q hq => gk_xok_of (List.all_eq_true.mp h q hq)
theorem ok_ke_keepDiary (oG : List (Nat × gk_G)) : gk_ok gk_M 43 tb_ke_keepDiary pl_ke (0, sw_ke_keepDiary, oG) := ⟨te_ke_keepDiary, pk_ke, tx_ke_keepDiary oG, rfl⟩
def tb_ke_creepIn : gk_T := [(0, .aload_n 0, 1, 0), (1, .getfield 15, 4, 0), (4, .getfield 59, 7, 0), (7, .iload_n 1, 8, 0), (8, .laload, 9, 0), (9, .lstore_n 2, 10, 0), (10, .lload_n 2, 11, 0), (11, .lload_n 2, 12, 0), (12, .iconst 1, 13, 0), (13, .invokestatic 140, 16, 0), (16, .ldc2_w 93, 19, 0), (19, .lxor, 20, 0), (20, .land, 21, 0), (21, .lstore 4, 23, 0), (23, .lload 4, 25, 0), (25, .lconst 0, 26, 0), (26, .lcmp, 27, 0), (27, .ifCond .ne 5, 30, 32), (30, .iconst 0, 31, 0), (31, .ireturn, 32, 0), (32, .iconst 1, 33, 0), (33, .istore 6, 35, 0), (35, .iload 6, 37, 0), (37, .iconst 4, 38, 0), (38, .if_icmp .gt 30, 41, 68), (41, .aload_n 0, 42, 0), (42, .getfield 9, 45, 0), (45, .iload 6, 47, 0), (47, .aload_n 0, 48, 0), (48, .getfield 23, 51, 0), (51, .aload_n 0, 52, 0), (52, .getfield 15, 55, 0), (55, .iload_n 1, 56, 0), (56, .iload 6, 58, 0), (58, .invokevirtual 144, 61, 0), (61, .iastore, 62, 0), (62, .iinc 6 1, 65, 0), (65, .goto (-30), 68, 35), (68, .lconst 0, 69, 0), (69, .lstore 6, 71, 0), (71, .iconst 0, 72, 0), (72, .istore 8, 74, 0), (74, .iload 8, 76, 0), (76, .bipush 64, 78, 0), (78, .if_icmp .ge 46, 81, 124), (81, .lload 4, 83, 0), (83, .iload 8, 85, 0), (85, .invokestatic 63, 88, 0), (88, .ifCond .eq 30, 91, 118), (91, .aload_n 0, 92, 0), (92, .aload_n 0, 93, 0), (93, .getfield 9, 96, 0), (96, .lload_n 2, 97, 0), (97, .iload 8, 99, 0), (99, .invokestatic 148, 102, 0), (102, .iaload, 103, 0), (103, .invokevirtual 152, 106, 0), (106, .ifCond .eq 12, 109, 118), (109, .lload 6, 111, 0), (111, .lconst 1, 112, 0), (112, .iload 8, 114, 0), (114, .lshl, 115, 0), (115, .lor, 116, 0), (116, .lstore 6, 118, 0), (118, .iinc 8 1, 121, 0), (121, .goto (-47), 124, 74), (124, .aload_n 0, 125, 0), (125, .getfield 15, 128, 0), (128, .getfield 59, 131, 0), (131, .iload_n 1, 132, 0), (132, .lload_n 2, 133, 0), (133, .lload 6, 135, 0), (135, .ldc2_w 93, 138, 0), (138, .lxor, 139, 0), (139, .land, 140, 0), (140, .lastore, 141, 0), (141, .lload 6, 143, 0), (143, .invokestatic 155, 146, 0), (146, .istore 8, 148, 0), (148, .iload 8, 150, 0), (150, .ifCond .le 11, 153, 161), (153, .aload_n 0, 154, 0), (154, .iconst 4, 155, 0), (155, .iload_n 1, 156, 0), (156, .iload 8, 158, 0), (158, .invokevirtual 79, 161, 0), (161, .iload 8, 163, 0), (163, .ireturn, 164, 0)]
def sw_ke_creepIn : List (Nat × List (Int32 × Nat) × Nat) := []
set_option maxRecDepth 100000 in
theorem te_ke_creepIn : ∀ q ∈ tb_ke_creepIn, gk_eok (gk_M 44).2.1 q = true := by decide +kernel
set_option maxRecDepth 100000 in
theorem tx_ke_creepIn (oG : List (Nat × gk_G)) : ∀ q ∈ tb_ke_creepIn, gk_xok "DryPlaces$Keeper" pl_ke (1, sw_ke_creepIn, oG) q := by
  have h : tb_ke_creepIn.all (fun q => gk_xokb "DryPlaces$Keeper" pl_ke sw_ke_creepIn q) = true := by decide +kernel
  exact fun q hq => gk_xok_of (List.all_eq_true.mp h q hq)
theorem ok_ke_creepIn (oG : List (Nat × gk_G)) : gk_ok gk_M 44 tb_ke_creepIn pl_ke (1, sw_ke_creepIn, oG) := ⟨te_ke_creepIn, pk_ke, tx_ke_creepIn oG, rfl⟩
def tb_ke_isHit : gk_T := [(0, .aload_n 0, 1, 0), (1, .getfield 27, 4, 0), (4, .ifnonnull 16, 7, 20), (7, .iload_n 1, 8, 0), (8, .sipush 500, 11, 0), (11, .if_icmp .lt 7, 14, 18), (14, .iconst 1, 15, 0), (15, .goto 4, 18, 19), (18, .iconst 0, 19, 0), (19, .ireturn, 20, 0), (20, .iload_n 1, 21, 0), (21, .ifCond .le 18, 24, 39), (24, .aload_n 0, 25, 0), (25, .getfield 15, 28, 0), (28, .invokevirtual 161, 31, 0), (31, .iload_n 1, 32, 0), (32, .if_icmp .ge 7, 35, 39), (35, .iconst 1, 36, 0), (36, .goto 4, 39, 40), (39, .iconst 0, 40, 0), (40, .ireturn, 41, 0)]
def sw_ke_isHit : List (Nat × List (Int32 × Nat) × Nat) := []
set_option maxRecDepth 100000 in
theorem te_ke_isHit : ∀ q ∈ tb_ke_isHit, gk_eok (gk_M 45).2.1 q = true := by decide +kernel
set_option maxRecDepth 100000 in
theorem tx_ke_isHit (oG : List (Nat × gk_G)) : ∀ q ∈ tb_ke_isHit, gk_xok "DryPlaces$Keeper" pl_ke (3, sw_ke_isHit, oG) q := by
  have h : tb_ke_isHit.all (fun q => gk_xokb "DryPlaces$Keeper" pl_ke sw_ke_isHit q) = true := by decide +kernel
  exact fun q hq => gk_xok_of (List.all_eq_true.mp h q hq)
theorem ok_ke_isHit (oG : List (Nat × gk_G)) : gk_ok gk_M 45 tb_ke_isHit pl_ke (3, sw_ke_isHit, oG) := ⟨te_ke_isHit, pk_ke, tx_ke_isHit oG, rfl⟩
def tb_ke_receive : gk_T := [(0, .aload_n 0, 1, 0), (1, .getfield 23, 4, 0), (4, .aload_n 0, 5, 0), (5, .getfield 15, 8, 0), (8, .iload_n 1, 9, 0), (9, .invokevirtual 165, 12, 0), (12, .istore_n 2, 13, 0), (13, .aload_n 0, 14, 0), (14, .getfield 15, 17, 0), (17, .dup, 18, 0), (18, .getfield 168, 21, 0), (21, .iload_n 2, 22, 0), (22, .iadd, 23, 0), (23, .putfield 168, 26, 0), (26, .aload_n 0, 27, 0), (27, .getfield 15, 30, 0), (30, .iload_n 2, 31, 0), (31, .invokevirtual 101, 34, 0), (34, .iload_n 2, 35, 0), (35, .ifCond .le 10, 38, 45), (38, .aload_n 0, 39, 0), (39, .iconst 5, 40, 0), (40, .iload_n 1, 41, 0), (41, .iload_n 2, 42, 0), (42, .invokevirtual 79, 45, 0), (45, .return_, 46, 0)]
def sw_ke_receive : List (Nat × List (Int32 × Nat) × Nat) := []
set_option maxRecDepth 100000 in
theorem te_ke_receive : ∀ q ∈ tb_ke_receive, gk_eok (gk_M 46).2.1 q = true := by decide +kernel
set_option maxRecDepth 100000 in
theorem tx_ke_receive (oG : List (Nat × gk_G)) : ∀ q ∈ tb_ke_receive, gk_xok "DryPlaces$Keeper" pl_ke (0, sw_ke_receive, oG) q := by
  have h : tb_ke_receive.all (fun q => gk_xokb "DryPlaces$Keeper" pl_ke sw_ke_receive q) = true := by decide +kernel
  exact fun q hq => gk_xok_of (List.all_eq_true.mp h q hq)
theorem ok_ke_receive (oG : List (Nat × gk_G)) : gk_ok gk_M 46 tb_ke_receive pl_ke (0, sw_ke_receive, oG) := ⟨te_ke_receive, pk_ke, tx_ke_receive oG, rfl⟩
def tb_ps_init : gk_T := [(0, .aload_n 0, 1, 0), (1, .invokespecial 3, 4, 0), (4, .aload_n 0, 5, 0), (5, .bipush 6, 7, 0), (7, .anewarray 9, 10, 0), (10, .putfield 11, 13, 0), (13, .iconst 0, 14, 0), (14, .istore_n 1, 15, 0), (15, .iload_n 1, 16, 0), (16, .bipush 6, 18, 0), (18, .if_icmp .ge 22, 21, 40), (21, .aload_n 0, 22, 0), (22, .getfield 11, 25, 0), (25, .iload_n 1, 26, 0), (26, .new 9, 29, 0), (29, .dup, 30, 0), (30, .invokespecial 17, 33, 0), (33, .aastore, 34, 0), (34, .iinc 1 1, 37, 0), (37, .goto (-22), 40, 15), (40, .return_, 41, 0)]
def sw_ps_init : List (Nat × List (Int32 × Nat) × Nat) := []
set_option maxRecDepth 100000 in
theorem te_ps_init : ∀ q ∈ tb_ps_init, gk_eok (gk_M 76).2.1 q = true := by decide +kernel
set_option maxRecDepth 100000 in
theorem tx_ps_init (oG : List (Nat × gk_G)) : ∀ q ∈ tb_ps_init, gk_xok "DryPlaces$Past" pl_ps (0, sw_ps_init, oG) q := by
  have h : tb_ps_init.all (fun q => gk_xokb "DryPlaces$Past" pl_ps sw_ps_init q) = true := by decide +kernel
  exact fun q hq => gk_xok_of (List.all_eq_true.mp h q hq)
theorem ok_ps_init (oG : List (Nat × gk_G)) : gk_ok gk_M 76 tb_ps_init pl_ps (0, sw_ps_init, oG) := ⟨te_ps_init, pk_ps, tx_ps_init oG, rfl⟩
def tb_ps_keep : gk_T := [(0, .aload_n 0, 1, 0), (1, .getfield 18, 4, 0), (4, .bipush 6, 6, 0), (6, .if_icmp .ne 26, 9, 32), (9, .aload_n 0, 10, 0), (10, .aload_n 0, 11, 0), (11, .getfield 22, 14, 0), (14, .iconst 1, 15, 0), (15, .iadd, 16, 0), (16, .bipush 6, 18, 0), (18, .irem, 19, 0), (19, .putfield 22, 22, 0), (22, .aload_n 0, 23, 0), (23, .dup, 24, 0), (24, .getfield 18, 27, 0), (27, .iconst 1, 28, 0), (28, .isub, 29, 0), (29, .putfield 18, 32, 0), (32, .aload_n 0, 33, 0), (33, .getfield 11, 36, 0), (36, .aload_n 0, 37, 0), (37, .getfield 22, 40, 0), (40, .aload_n 0, 41, 0), (41, .getfield 18, 44, 0), (44, .iadd, 45, 0), (45, .bipush 6, 47, 0), (47, .irem, 48, 0), (48, .aaload, 49, 0), (49, .aload_n 1, 50, 0), (50, .invokevirtual 25, 53, 0), (53, .aload_n 0, 54, 0), (54, .dup, 55, 0), (55, .getfield 18, 58, 0), (58, .iconst 1, 59, 0), (59, .iadd, 60, 0), (60, .putfield 18, 63, 0), (63, .return_, 64, 0)]
def sw_ps_keep : List (Nat × List (Int32 × Nat) × Nat) := []
set_option maxRecDepth 100000 in
theorem te_ps_keep : ∀ q ∈ tb_ps_keep, gk_eok (gk_M 77).2.1 q = true := by decide +kernel
set_option maxRecDepth 100000 in
theorem tx_ps_keep (oG : List (Nat × gk_G)) : ∀ q ∈ tb_ps_keep, gk_xok "DryPlaces$Past" pl_ps (0, sw_ps_keep, oG) q := by
  have h : tb_ps_keep.all (fun q => gk_xokb "DryPlaces$Past" pl_ps sw_ps_keep q) = true := by decide +kernel
  exact fun q hq => gk_xok_of (List.all_eq_true.mp h q hq)
theorem ok_ps_keep (oG : List (Nat × gk_G)) : gk_ok gk_M 77 tb_ps_keep pl_ps (0, sw_ps_keep, oG) := ⟨te_ps_keep, pk_ps, tx_ps_keep oG, rfl⟩
def tb_ps_goBack : gk_T := [(0, .aload_n 0, 1, 0), (1, .getfield 18, 4, 0), (4, .ifCond .ne 5, 7, 9), (7, .iconst 0, 8, 0), (8, .ireturn, 9, 0), (9, .aload_n 0, 10, 0), (10, .dup, 11, 0), (11, .getfield 18, 14, 0), (14, .iconst 1, 15, 0), (15, .isub, 16, 0), (16, .putfield 18, 19, 0), (19, .aload_n 1, 20, 0), (20, .aload_n 0, 21, 0), (21, .getfield 11, 24, 0), (24, .aload_n 0, 25, 0), (25, .getfield 22, 28, 0), (28, .aload_n 0, 29, 0), (29, .getfield 18, 32, 0), (32, .iadd, 33, 0), (33, .bipush 6, 35, 0), (35, .irem, 36, 0), (36, .aaload, 37, 0), (37, .invokevirtual 25, 40, 0), (40, .iconst 1, 41, 0), (41, .ireturn, 42, 0)]
def sw_ps_goBack : List (Nat × List (Int32 × Nat) × Nat) := []
set_option maxRecDepth 100000 in
theorem te_ps_goBack : ∀ q ∈ tb_ps_goBack, gk_eok (gk_M 78).2.1 q = true := by decide +kernel
set_option maxRecDepth 100000 in
theorem tx_ps_goBack (oG : List (Nat × gk_G)) : ∀ q ∈ tb_ps_goBack, gk_xok "DryPlaces$Past" pl_ps (3, sw_ps_goBack, oG) q := by
  have h : tb_ps_goBack.all (fun q => gk_xokb "DryPlaces$Past" pl_ps sw_ps_goBack q) = true := by decide +kernel
  exact fun q hq => gk_xok_of (List.all_eq_true.mp h q hq)
theorem ok_ps_goBack (oG : List (Nat × gk_G)) : gk_ok gk_M 78 tb_ps_goBack pl_ps (3, sw_ps_goBack, oG) := ⟨te_ps_goBack, pk_ps, tx_ps_goBack oG, rfl⟩
def tb_ps_forget : gk_T := [(0, .aload_n 0, 1, 0), (1, .iconst 0, 2, 0), (2, .putfield 18, 5, 0), (5, .return_, 6, 0)]
def sw_ps_forget : List (Nat × List (Int32 × Nat) × Nat) := []
set_option maxRecDepth 100000 in
theorem te_ps_forget : ∀ q ∈ tb_ps_forget, gk_eok (gk_M 79).2.1 q = true := by decide +kernel
set_option maxRecDepth 100000 in
theorem tx_ps_forget (oG : List (Nat × gk_G)) : ∀ q ∈ tb_ps_forget, gk_xok "DryPlaces$Past" pl_ps (0, sw_ps_forget, oG) q := by
  have h : tb_ps_forget.all (fun q => gk_xokb "DryPlaces$Past" pl_ps sw_ps_forget q) = true := by decide +kernel
  exact fun q hq => gk_xok_of (List.all_eq_true.mp h q hq)
theorem ok_ps_forget (oG : List (Nat × gk_G)) : gk_ok gk_M 79 tb_ps_forget pl_ps (0, sw_ps_forget, oG) := ⟨te_ps_forget, pk_ps, tx_ps_forget oG, rfl⟩
def tb_te_init : gk_T := [(0, .aload_n 0, 1, 0), (1, .invokespecial 3, 4, 0), (4, .aload_n 0, 5, 0), (5, .bipush 9, 7, 0), (7, .newarray .int, 9, 0), (9, .putfield 11, 12, 0), (12, .aload_n 0, 13, 0), (13, .bipush 22, 15, 0), (15, .newarray .int, 17, 0), (17, .putfield 15, 20, 0), (20, .aload_n 0, 21, 0), (21, .aload_n 1, 22, 0), (22, .putfield 18, 25, 0), (25, .return_, 26, 0)]
def sw_te_init : List (Nat × List (Int32 × Nat) × Nat) := []
set_option maxRecDepth 100000 in
theorem te_te_init : ∀ q ∈ tb_te_init, gk_eok (gk_M 90).2.1 q = true := by decide +kernel
set_option maxRecDepth 100000 in
theorem tx_te_init (oG : List (Nat × gk_G)) : ∀ q ∈ tb_te_init, gk_xok "DryPlaces$Teller" pl_te (0, sw_te_init, oG) q := by
  have h : tb_te_init.all (fun q => gk_xokb "DryPlaces$Teller" pl_te sw_te_init q) = true := by decide +kernel
  exact fun q hq => gk_xok_of (List.all_eq_true.mp h q hq)
theorem ok_te_init (oG : List (Nat × gk_G)) : gk_ok gk_M 90 tb_te_init pl_te (0, sw_te_init, oG) := ⟨te_te_init, pk_te, tx_te_init oG, rfl⟩
def tb_te_worthOf : gk_T := [(0, .aload_n 0, 1, 0), (1, .aload_n 1, 2, 0), (2, .iload_n 2, 3, 0), (3, .iconst 0, 4, 0), (4, .invokevirtual 22, 7, 0), (7, .aload_n 0, 8, 0), (8, .iconst 1, 9, 0), (9, .iconst 5, 10, 0), (10, .aload_n 0, 11, 0), (11, .getfield 11, 14, 0), (14, .iconst 0, 15, 0), (15, .iaload, 16, 0), (16, .imul, 17, 0), (17, .aload_n 0, 18, 0), (18, .getfield 11, 21, 0), (21, .iconst 2, 22, 0), (22, .iaload, 23, 0), (23, .iadd, 24, 0), (24, .invokevirtual 26, 27, 0), (27, .sipush 9999, 30, 0), (30, .invokestatic 30, 33, 0), (33, .ireturn, 34, 0)]
def sw_te_worthOf : List (Nat × List (Int32 × Nat) × Nat) := []
set_option maxRecDepth 100000 in
theorem te_te_worthOf : ∀ q ∈ tb_te_worthOf, gk_eok (gk_M 91).2.1 q = true := by decide +kernel
set_option maxRecDepth 100000 in
theorem tx_te_worthOf (oG : List (Nat × gk_G)) : ∀ q ∈ tb_te_worthOf, gk_xok "DryPlaces$Teller" pl_te (1, sw_te_worthOf, oG) q := by
  have h : tb_te_worthOf.all (fun q => gk_xokb "DryPlaces$Teller" pl_te sw_te_worthOf q) = true := by decide +kernel
  exact fun q hq => gk_xok_of (List.all_eq_true.mp h q hq)
theorem ok_te_worthOf (oG : List (Nat × gk_G)) : gk_ok gk_M 91 tb_te_worthOf pl_te (1, sw_te_worthOf, oG) := ⟨te_te_worthOf, pk_te, tx_te_worthOf oG, rfl⟩
def tb_te_comersTo : gk_T := [(0, .aload_n 0, 1, 0), (1, .aload_n 1, 2, 0), (2, .iload_n 2, 3, 0), (3, .iconst 0, 4, 0), (4, .invokevirtual 22, 7, 0), (7, .aload_n 0, 8, 0), (8, .iconst 2, 9, 0), (9, .aload_n 0, 10, 0), (10, .getfield 11, 13, 0), (13, .iconst 3, 14, 0), (14, .iaload, 15, 0), (15, .aload_n 0, 16, 0), (16, .getfield 11, 19, 0), (19, .iconst 0, 20, 0), (20, .iaload, 21, 0), (21, .bipush 8, 23, 0), (23, .idiv, 24, 0), (24, .iadd, 25, 0), (25, .invokevirtual 26, 28, 0), (28, .bipush 99, 30, 0), (30, .invokestatic 30, 33, 0), (33, .ireturn, 34, 0)]
def sw_te_comersTo : List (Nat × List (Int32 × Nat) × Nat) := []
set_option maxRecDepth 100000 in
theorem te_te_comersTo : ∀ q ∈ tb_te_comersTo, gk_eok (gk_M 92).2.1 q = true := by decide +kernel
set_option maxRecDepth 100000 in
theorem tx_te_comersTo (oG : List (Nat × gk_G)) : ∀ q ∈ tb_te_comersTo, gk_xok "DryPlaces$Teller" pl_te (1, sw_te_comersTo, oG) q := by
  have h : tb_te_comersTo.all (fun q => gk_xokb "DryPlaces$Teller" pl_te sw_te_comersTo q) = true := by decide +kernel
  exact fun q hq => gk_xok_of (List.all_eq_true.mp h q hq)
theorem ok_te_comersTo (oG : List (Nat × gk_G)) : gk_ok gk_M 92 tb_te_comersTo pl_te (1, sw_te_comersTo, oG) := ⟨te_te_comersTo, pk_te, tx_te_comersTo oG, rfl⟩
def tb_te_chanceIn : gk_T := [(0, .aload_n 0, 1, 0), (1, .aload_n 1, 2, 0), (2, .iload_n 2, 3, 0), (3, .iload_n 3, 4, 0), (4, .invokevirtual 22, 7, 0), (7, .aload_n 0, 8, 0), (8, .iconst 0, 9, 0), (9, .bipush 10, 11, 0), (11, .iload_n 3, 12, 0), (12, .imul, 13, 0), (13, .invokevirtual 26, 16, 0), (16, .sipush 1000, 19, 0), (19, .invokestatic 30, 22, 0), (22, .ireturn, 23, 0)]
def sw_te_chanceIn : List (Nat × List (Int32 × Nat) × Nat) := []
set_option maxRecDepth 100000 in
theorem te_te_chanceIn : ∀ q ∈ tb_te_chanceIn, gk_eok (gk_M 93).2.1 q = true := by decide +kernel
set_option maxRecDepth 100000 in
theorem tx_te_chanceIn (oG : List (Nat × gk_G)) : ∀ q ∈ tb_te_chanceIn, gk_xok "DryPlaces$Teller" pl_te (1, sw_te_chanceIn, oG) q := by
  have h : tb_te_chanceIn.all (fun q => gk_xokb "DryPlaces$Teller" pl_te sw_te_chanceIn q) = true := by decide +kernel
  exact fun q hq => gk_xok_of (List.all_eq_true.mp h q hq)
theorem ok_te_chanceIn (oG : List (Nat × gk_G)) : gk_ok gk_M 93 tb_te_chanceIn pl_te (1, sw_te_chanceIn, oG) := ⟨te_te_chanceIn, pk_te, tx_te_chanceIn oG, rfl⟩
def tb_te_held : gk_T := [(0, .iconst 0, 1, 0), (1, .iload_n 1, 2, 0), (2, .iload_n 0, 3, 0), (3, .invokestatic 33, 6, 0), (6, .invokestatic 38, 9, 0), (9, .ireturn, 10, 0)]
def sw_te_held : List (Nat × List (Int32 × Nat) × Nat) := []
set_option maxRecDepth 100000 in
theorem te_te_held : ∀ q ∈ tb_te_held, gk_eok (gk_M 94).2.1 q = true := by decide +kernel
set_option maxRecDepth 100000 in
theorem tx_te_held (oG : List (Nat × gk_G)) : ∀ q ∈ tb_te_held, gk_xok "DryPlaces$Teller" pl_te (1, sw_te_held, oG) q := by
  have h : tb_te_held.all (fun q => gk_xokb "DryPlaces$Teller" pl_te sw_te_held q) = true := by decide +kernel
  exact fun q hq => gk_xok_of (List.all_eq_true.mp h q hq)
theorem ok_te_held (oG : List (Nat × gk_G)) : gk_ok gk_M 94 tb_te_held pl_te (1, sw_te_held, oG) := ⟨te_te_held, pk_te, tx_te_held oG, rfl⟩
def tb_te_face : gk_T := [(0, .aload_n 1, 1, 0), (1, .getfield 41, 4, 0), (4, .iload_n 2, 5, 0), (5, .iaload, 6, 0), (6, .istore 4, 8, 0), (8, .aload_n 0, 9, 0), (9, .getfield 11, 12, 0), (12, .iconst 0, 13, 0), (13, .aload_n 1, 14, 0), (14, .getfield 46, 17, 0), (17, .iload_n 2, 18, 0), (18, .laload, 19, 0), (19, .invokestatic 50, 22, 0), (22, .iastore, 23, 0), (23, .aload_n 0, 24, 0), (24, .getfield 11, 27, 0), (27, .iconst 1, 28, 0), (28, .aload_n 1, 29, 0), (29, .getfield 46, 32, 0), (32, .iload_n 2, 33, 0), (33, .laload, 34, 0), (34, .invokestatic 56, 37, 0), (37, .iastore, 38, 0), (38, .aload_n 0, 39, 0), (39, .getfield 11, 42, 0), (42, .iconst 2, 43, 0), (43, .aload_n 1, 44, 0), (44, .getfield 61, 47, 0), (47, .iload_n 2, 48, 0), (48, .iaload, 49, 0), (49, .iastore, 50, 0), (50, .aload_n 0, 51, 0), (51, .getfield 11, 54, 0), (54, .iconst 3, 55, 0), (55, .iload 4, 57, 0), (57, .invokestatic 64, 60, 0), (60, .ifCond .eq 13, 63, 73), (63, .aload_n 1, 64, 0), (64, .getfield 68, 67, 0), (67, .iload 4, 69, 0), (69, .iaload, 70, 0), (70, .goto 4, 73, 74), (73, .iconst 0, 74, 0), (74, .iastore, 75, 0), (75, .aload_n 0, 76, 0), (76, .getfield 11, 79, 0), (79, .iconst 4, 80, 0), (80, .iload 4, 82, 0), (82, .iconst 1, 83, 0), (83, .iadd, 84, 0), (84, .iastore, 85, 0), (85, .aload_n 0, 86, 0), (86, .getfield 11, 89, 0), (89, .iconst 5, 90, 0), (90, .aload_n 1, 91, 0), (91, .iload_n 2, 92, 0), (92, .invokevirtual 71, 95, 0), (95, .ifCond .eq 7, 98, 102), (98, .iconst 1, 99, 0), (99, .goto 4, 102, 103), (102, .iconst 0, 103, 0), (103, .iastore, 104, 0), (104, .aload_n 0, 105, 0), (105, .getfield 11, 108, 0), (108, .bipush 6, 110, 0), (110, .aload_n 1, 111, 0), (111, .getfield 74, 114, 0), (114, .iload_n 2, 115, 0), (115, .iaload, 116, 0), (116, .iastore, 117, 0), (117, .aload_n 0, 118, 0), (118, .getfield 11, 121, 0), (121, .bipush 7, 123, 0), (123, .aload_n 1, 124, 0), (124, .getfield 77, 127, 0), (127, .iastore, 128, 0), (128, .aload_n 0, 129, 0), (129, .getfield 11, 132, 0), (132, .bipush 8, 134, 0), (134, .iload_n 3, 135, 0), (135, .iastore, 136, 0), (136, .return_, 137, 0)]
def sw_te_face : List (Nat × List (Int32 × Nat) × Nat) := []
set_option maxRecDepth 100000 in
theorem te_te_face : ∀ q ∈ tb_te_face, gk_eok (gk_M 95).2.1 q = true := by decide +kernel
set_option maxRecDepth 100000 in
theorem tx_te_face (oG : List (Nat × gk_G)) : ∀ q ∈ tb_te_face, gk_xok "DryPlaces$Teller" pl_te (0, sw_te_face, oG) q := by
  have h : tb_te_face.all (fun q => gk_xokb "DryPlaces$Teller" pl_te sw_te_face q) = true := by decide +kernel
  exact fun q hq => gk_xok_of (List.all_eq_true.mp h q hq)
theorem ok_te_face (oG : List (Nat × gk_G)) : gk_ok gk_M 95 tb_te_face pl_te (0, sw_te_face, oG) := ⟨te_te_face, pk_te, tx_te_face oG, rfl⟩
def tb_te_ask : gk_T := [(0, .iconst 0, 1, 0), (1, .istore_n 3, 2, 0), (2, .iload_n 3, 3, 0), (3, .aload_n 0, 4, 0), (4, .getfield 18, 7, 0), (7, .getfield 81, 10, 0), (10, .if_icmp .ge 103, 13, 113), (13, .aload_n 0, 14, 0), (14, .getfield 18, 17, 0), (17, .getfield 86, 20, 0), (20, .iload_n 3, 21, 0), (21, .iaload, 22, 0), (22, .aload_n 0, 23, 0), (23, .getfield 18, 26, 0), (26, .getfield 89, 29, 0), (29, .iload_n 3, 30, 0), (30, .iaload, 31, 0), (31, .if_icmp .ge 7, 34, 38), (34, .iconst 1, 35, 0), (35, .goto 4, 38, 39), (38, .iconst 0, 39, 0), (39, .istore 4, 41, 0), (41, .aload_n 0, 42, 0), (42, .getfield 18, 45, 0), (45, .getfield 92, 48, 0), (48, .iload_n 3, 49, 0), (49, .iaload, 50, 0), (50, .iload_n 1, 51, 0), (51, .if_icmp .ne 56, 54, 107), (54, .iload 4, 56, 0), (56, .ifCond .eq 28, 59, 84), (59, .aload_n 0, 60, 0), (60, .aload_n 0, 61, 0), (61, .getfield 18, 64, 0), (64, .getfield 86, 67, 0), (67, .iload_n 3, 68, 0), (68, .iaload, 69, 0), (69, .aload_n 0, 70, 0), (70, .getfield 18, 73, 0), (73, .getfield 89, 76, 0), (76, .iload_n 3, 77, 0), (77, .iaload, 78, 0), (78, .invokevirtual 95, 81, 0), (81, .ifCond .eq 26, 84, 107), (84, .aload_n 0, 85, 0), (85, .aload_n 0, 86, 0), (86, .getfield 18, 89, 0), (89, .getfield 98, 92, 0), (92, .iload_n 3, 93, 0), (93, .iaload, 94, 0), (94, .aload_n 0, 95, 0), (95, .getfield 18, 98, 0), (98, .getfield 86, 101, 0), (101, .iload_n 3, 102, 0), (102, .iaload, 103, 0), (103, .invokevirtual 95, 106, 0), (106, .ireturn, 107, 0), (107, .iinc 3 1, 110, 0), (110, .goto (-108), 113, 2), (113, .iload_n 2, 114, 0), (114, .ireturn, 115, 0)]
def sw_te_ask : List (Nat × List (Int32 × Nat) × Nat) := []
set_option maxRecDepth 100000 in
theorem te_te_ask : ∀ q ∈ tb_te_ask, gk_eok (gk_M 96).2.1 q = true := by decide +kernel
set_option maxRecDepth 100000 in
theorem tx_te_ask (oG : List (Nat × gk_G)) : ∀ q ∈ tb_te_ask, gk_xok "DryPlaces$Teller" pl_te (1, sw_te_ask, oG) q := by
  have h : tb_te_ask.all (fun q => gk_xokb "DryPlaces$Teller" pl_te sw_te_ask q) = true := by decide +kernel
  exact fun q hq => gk_xok_of (List.all_eq_true.mp h q hq)
theorem ok_te_ask (oG : List (Nat × gk_G)) : gk_ok gk_M 96 tb_te_ask pl_te (1, sw_te_ask, oG) := ⟨te_te_ask, pk_te, tx_te_ask oG, rfl⟩
def tb_te_run : gk_T := [(0, .iconst 0, 1, 0), (1, .istore_n 3, 2, 0), (2, .iload_n 1, 3, 0), (3, .istore 4, 5, 0), (5, .iload 4, 7, 0), (7, .iload_n 2, 8, 0), (8, .if_icmp .ge 186, 11, 194), (11, .iload 4, 13, 0), (13, .sipush 400, 16, 0), (16, .if_icmp .ge 178, 19, 194), (19, .aload_n 0, 20, 0), (20, .getfield 18, 23, 0), (23, .getfield 101, 26, 0), (26, .iload 4, 28, 0), (28, .iaload, 29, 0), (29, .istore 5, 31, 0), (31, .aload_n 0, 32, 0), (32, .getfield 18, 35, 0), (35, .getfield 104, 38, 0), (38, .iload 4, 40, 0), (40, .iaload, 41, 0), (41, .istore 6, 43, 0), (43, .iload 5, 45, 0), (45, .iconst 1, 46, 0), (46, .if_icmp .gt 59, 49, 105), (49, .iload_n 3, 50, 0), (50, .bipush 22, 52, 0), (52, .if_icmp .ge 21, 55, 73), (55, .iload 6, 57, 0), (57, .ifCond .lt 16, 60, 73), (60, .iload 5, 62, 0), (62, .iconst 1, 63, 0), (63, .if_icmp .ne 12, 66, 75), (66, .iload 6, 68, 0), (68, .bipush 9, 70, 0), (70, .if_icmp .lt 5, 73, 75), (73, .iconst 0, 74, 0), (74, .ireturn, 75, 0), (75, .aload_n 0, 76, 0), (76, .getfield 15, 79, 0), (79, .iload_n 3, 80, 0), (80, .iload 5, 82, 0), (82, .iconst 1, 83, 0), (83, .if_icmp .ne 13, 86, 96), (86, .aload_n 0, 87, 0), (87, .getfield 11, 90, 0), (90, .iload 6, 92, 0), (92, .iaload, 93, 0), (93, .goto 5, 96, 98), (96, .iload 6, 98, 0), (98, .iastore, 99, 0), (99, .iinc 3 1, 102, 0), (102, .goto 86, 105, 188), (105, .iload 5, 107, 0), (107, .iconst 5, 108, 0), (108, .if_icmp .eq 10, 111, 118), (111, .iload 5, 113, 0), (113, .bipush 9, 115, 0), (115, .if_icmp .ne 36, 118, 151), (118, .iload_n 3, 119, 0), (119, .iconst 1, 120, 0), (120, .if_icmp .ge 5, 123, 125), (123, .iconst 0, 124, 0), (124, .ireturn, 125, 0), (125, .aload_n 0, 126, 0), (126, .getfield 15, 129, 0), (129, .iload_n 3, 130, 0), (130, .iconst 1, 131, 0), (131, .isub, 132, 0), (132, .iload 5, 134, 0), (134, .aload_n 0, 135, 0), (135, .getfield 15, 138, 0), (138, .iload_n 3, 139, 0), (139, .iconst 1, 140, 0), (140, .isub, 141, 0), (141, .iaload, 142, 0), (142, .iload 6, 144, 0), (144, .invokestatic 107, 147, 0), (147, .iastore, 148, 0), (148, .goto 40, 151, 188), (151, .iload_n 3, 152, 0), (152, .iconst 2, 153, 0), (153, .if_icmp .ge 5, 156, 158), (156, .iconst 0, 157, 0), (157, .ireturn, 158, 0), (158, .iinc 3 (-1), 161, 0), (161, .aload_n 0, 162, 0), (162, .getfield 15, 165, 0), (165, .iload_n 3, 166, 0), (166, .iconst 1, 167, 0), (167, .isub, 168, 0), (168, .iload 5, 170, 0), (170, .aload_n 0, 171, 0), (171, .getfield 15, 174, 0), (174, .iload_n 3, 175, 0), (175, .iconst 1, 176, 0), (176, .isub, 177, 0), (177, .iaload, 178, 0), (178, .aload_n 0, 179, 0), (179, .getfield 15, 182, 0), (182, .iload_n 3, 183, 0), (183, .iaload, 184, 0), (184, .invokestatic 111, 187, 0), (187, .iastore, 188, 0), (188, .iinc 4 1, 191, 0), (191, .goto (-186), 194, 5), (194, .iload_n 3, 195, 0), (195, .iconst 1, 196, 0), (196, .if_icmp .ne 12, 199, 208), (199, .aload_n 0, 200, 0), (200, .getfield 15, 203, 0), (203, .iconst 0, 204, 0), (204, .iaload, 205, 0), (205, .goto 4, 208, 209), (208, .iconst 0, 209, 0), (209, .ireturn, 210, 0)]
def sw_te_run : List (Nat × List (Int32 × Nat) × Nat) := []
set_option maxRecDepth 100000 in
theorem te_te_run : ∀ q ∈ tb_te_run, gk_eok (gk_M 97).2.1 q = true := by decide +kernel
set_option maxRecDepth 100000 in
theorem tx_te_run (oG : List (Nat × gk_G)) : ∀ q ∈ tb_te_run, gk_xok "DryPlaces$Teller" pl_te (1, sw_te_run, oG) q := by
  have h : tb_te_run.all (fun q => gk_xokb "DryPlaces$Teller" pl_te sw_te_run q) = true := by decide +kernel
  exact fun q hq => gk_xok_of (List.all_eq_true.mp h q hq)
theorem ok_te_run (oG : List (Nat × gk_G)) : gk_ok gk_M 97 tb_te_run pl_te (1, sw_te_run, oG) := ⟨te_te_run, pk_te, tx_te_run oG, rfl⟩
def tb_te_changed : gk_T := [(0, .iload_n 0, 1, 0), (1, .bipush 9, 3, 0), (3, .if_icmp .ne 7, 6, 10), (6, .iconst 1, 7, 0), (7, .iload_n 1, 8, 0), (8, .isub, 9, 0), (9, .ireturn, 10, 0), (10, .iload_n 2, 11, 0), (11, .ifCond .ne 7, 14, 18), (14, .iconst 0, 15, 0), (15, .goto 6, 18, 21), (18, .iload_n 1, 19, 0), (19, .iload_n 2, 20, 0), (20, .idiv, 21, 0), (21, .ireturn, 22, 0)]
def sw_te_changed : List (Nat × List (Int32 × Nat) × Nat) := []
set_option maxRecDepth 100000 in
theorem te_te_changed : ∀ q ∈ tb_te_changed, gk_eok (gk_M 98).2.1 q = true := by decide +kernel
set_option maxRecDepth 100000 in
theorem tx_te_changed (oG : List (Nat × gk_G)) : ∀ q ∈ tb_te_changed, gk_xok "DryPlaces$Teller" pl_te (1, sw_te_changed, oG) q := by
  have h : tb_te_changed.all (fun q => gk_xokb "DryPlaces$Teller" pl_te sw_te_changed q) = true := by decide +kernel
  exact fun q hq => gk_xok_of (List.all_eq_true.mp h q hq)
theorem ok_te_changed (oG : List (Nat × gk_G)) : gk_ok gk_M 98 tb_te_changed pl_te (1, sw_te_changed, oG) := ⟨te_te_changed, pk_te, tx_te_changed oG, rfl⟩
def tb_te_joined : gk_T := [(0, .iload_n 0, 1, 0), (1, .tableswitch 108 2 11 #[55, 59, 63, 108, 67, 78, 89, 108, 100, 104], 56, 0), (56, .iload_n 1, 57, 0), (57, .iload_n 2, 58, 0), (58, .iadd, 59, 0), (59, .ireturn, 60, 0), (60, .iload_n 1, 61, 0), (61, .iload_n 2, 62, 0), (62, .isub, 63, 0), (63, .ireturn, 64, 0), (64, .iload_n 1, 65, 0), (65, .iload_n 2, 66, 0), (66, .imul, 67, 0), (67, .ireturn, 68, 0), (68, .iload_n 1, 69, 0), (69, .iload_n 2, 70, 0), (70, .if_icmp .ge 7, 73, 77), (73, .iconst 1, 74, 0), (74, .goto 4, 77, 78), (77, .iconst 0, 78, 0), (78, .ireturn, 79, 0), (79, .iload_n 1, 80, 0), (80, .iload_n 2, 81, 0), (81, .if_icmp .ne 7, 84, 88), (84, .iconst 1, 85, 0), (85, .goto 4, 88, 89), (88, .iconst 0, 89, 0), (89, .ireturn, 90, 0), (90, .iload_n 1, 91, 0), (91, .iload_n 2, 92, 0), (92, .if_icmp .le 7, 95, 99), (95, .iconst 1, 96, 0), (96, .goto 4, 99, 100), (99, .iconst 0, 100, 0), (100, .ireturn, 101, 0), (101, .iload_n 1, 102, 0), (102, .iload_n 2, 103, 0), (103, .iand, 104, 0), (104, .ireturn, 105, 0), (105, .iload_n 1, 106, 0), (106, .iload_n 2, 107, 0), (107, .ior, 108, 0), (108, .ireturn, 109, 0), (109, .iconst 0, 110, 0), (110, .ireturn, 111, 0)]
def sw_te_joined : List (Nat × List (Int32 × Nat) × Nat) := [(1, [(2, 56), (3, 60), (4, 64), (5, 109), (6, 68), (7, 79), (8, 90), (9, 109), (10, 101), (11, 105)], 109)]
set_option maxRecDepth 100000 in
theorem te_te_joined : ∀ q ∈ tb_te_joined, gk_eok (gk_M 99).2.1 q = true := by decide +kernel
set_option maxRecDepth 100000 in
theorem tx_te_joined (oG : List (Nat × gk_G)) : ∀ q ∈ tb_te_joined, gk_xok "DryPlaces$Teller" pl_te (1, sw_te_joined, oG) q := by
  have h : tb_te_joined.all (fun q => gk_xokb "DryPlaces$Teller" pl_te sw_te_joined q) = true := by decide +kernel
  exact fun q hq => gk_xok_of (List.all_eq_true.mp h q hq)
theorem ok_te_joined (oG : List (Nat × gk_G)) : gk_ok gk_M 99 tb_te_joined pl_te (1, sw_te_joined, oG) := ⟨te_te_joined, pk_te, tx_te_joined oG, rfl⟩
def tb_wo_init : gk_T := [(0, .aload_n 0, 1, 0), (1, .invokespecial 3, 4, 0), (4, .aload_n 0, 5, 0), (5, .bipush 10, 7, 0), (7, .newarray .long, 9, 0), (9, .putfield 9, 12, 0), (12, .aload_n 0, 13, 0), (13, .bipush 10, 15, 0), (15, .newarray .int, 17, 0), (17, .putfield 15, 20, 0), (20, .aload_n 0, 21, 0), (21, .bipush 10, 23, 0), (23, .newarray .int, 25, 0), (25, .putfield 19, 28, 0), (28, .aload_n 0, 29, 0), (29, .bipush 10, 31, 0), (31, .newarray .int, 33, 0), (33, .putfield 22, 36, 0), (36, .aload_n 0, 37, 0), (37, .bipush 6, 39, 0), (39, .newarray .int, 41, 0), (41, .putfield 25, 44, 0), (44, .aload_n 0, 45, 0), (45, .getfield 19, 48, 0), (48, .iconst (-1), 49, 0), (49, .invokestatic 28, 52, 0), (52, .return_, 53, 0)]
def sw_wo_init : List (Nat × List (Int32 × Nat) × Nat) := []
set_option maxRecDepth 100000 in
theorem te_wo_init : ∀ q ∈ tb_wo_init, gk_eok (gk_M 113).2.1 q = true := by decide +kernel
set_option maxRecDepth 100000 in
theorem tx_wo_init (oG : List (Nat × gk_G)) : ∀ q ∈ tb_wo_init, gk_xok "DryPlaces$World" pl_wo (0, sw_wo_init, oG) q := by
  have h : tb_wo_init.all (fun q => gk_xokb "DryPlaces$World" pl_wo sw_wo_init q) = true := by decide +kernel
  exact fun q hq => gk_xok_of (List.all_eq_true.mp h q hq)
theorem ok_wo_init (oG : List (Nat × gk_G)) : gk_ok gk_M 113 tb_wo_init pl_wo (0, sw_wo_init, oG) := ⟨te_wo_init, pk_wo, tx_wo_init oG, rfl⟩
def tb_wo_copy : gk_T := [(0, .aload_n 0, 1, 0), (1, .aload_n 1, 2, 0), (2, .getfield 34, 5, 0), (5, .putfield 34, 8, 0), (8, .aload_n 0, 9, 0), (9, .aload_n 1, 10, 0), (10, .getfield 38, 13, 0), (13, .putfield 38, 16, 0), (16, .aload_n 0, 17, 0), (17, .aload_n 1, 18, 0), (18, .getfield 41, 21, 0), (21, .putfield 41, 24, 0), (24, .aload_n 0, 25, 0), (25, .aload_n 1, 26, 0), (26, .getfield 44, 29, 0), (29, .putfield 44, 32, 0), (32, .aload_n 0, 33, 0), (33, .aload_n 1, 34, 0), (34, .getfield 47, 37, 0), (37, .putfield 47, 40, 0), (40, .aload_n 0, 41, 0), (41, .aload_n 1, 42, 0), (42, .getfield 50, 45, 0), (45, .putfield 50, 48, 0), (48, .aload_n 0, 49, 0), (49, .aload_n 1, 50, 0), (50, .getfield 53, 53, 0), (53, .putfield 53, 56, 0), (56, .aload_n 0, 57, 0), (57, .aload_n 1, 58, 0), (58, .getfield 56, 61, 0), (61, .putfield 56, 64, 0), (64, .aload_n 1, 65, 0), (65, .getfield 9, 68, 0), (68, .iconst 0, 69, 0), (69, .aload_n 0, 70, 0), (70, .getfield 9, 73, 0), (73, .iconst 0, 74, 0), (74, .bipush 10, 76, 0), (76, .invokestatic 59, 79, 1), (79, .aload_n 1, 80, 0), (80, .getfield 15, 83, 0), (83, .iconst 0, 84, 0), (84, .aload_n 0, 85, 0), (85, .getfield 15, 88, 0), (88, .iconst 0, 89, 0), (89, .bipush 10, 91, 0), (91, .invokestatic 59, 94, 1), (94, .aload_n 1, 95, 0), (95, .getfield 19, 98, 0), (98, .iconst 0, 99, 0), (99, .aload_n 0, 100, 0), (100, .getfield 19, 103, 0), (103, .iconst 0, 104, 0), (104, .bipush 10, 106, 0), (106, .invokestatic 59, 109, 1), (109, .aload_n 1, 110, 0), (110, .getfield 22, 113, 0), (113, .iconst 0, 114, 0), (114, .aload_n 0, 115, 0), (115, .getfield 22, 118, 0), (118, .iconst 0, 119, 0), (119, .bipush 10, 121, 0), (121, .invokestatic 59, 124, 1), (124, .aload_n 1, 125, 0), (125, .getfield 25, 128, 0), (128, .iconst 0, 129, 0), (129, .aload_n 0, 130, 0), (130, .getfield 25, 133, 0), (133, .iconst 0, 134, 0), (134, .bipush 6, 136, 0), (136, .invokestatic 59, 139, 1), (139, .return_, 140, 0)]
def sw_wo_copy : List (Nat × List (Int32 × Nat) × Nat) := []
set_option maxRecDepth 100000 in
theorem te_wo_copy : ∀ q ∈ tb_wo_copy, gk_eok (gk_M 114).2.1 q = true := by decide +kernel
set_option maxRecDepth 100000 in
theorem tx_wo_copy (oG : List (Nat × gk_G)) : ∀ q ∈ tb_wo_copy, gk_xok "DryPlaces$World" pl_wo (0, sw_wo_copy, oG) q := by
  have h : tb_wo_copy.all (fun q => gk_xokb "DryPlaces$World" pl_wo sw_wo_copy q) = true := by decide +kernel
  exact fun q hq => gk_xok_of (List.all_eq_true.mp h q hq)
theorem ok_wo_copy (oG : List (Nat × gk_G)) : gk_ok gk_M 114 tb_wo_copy pl_wo (0, sw_wo_copy, oG) := ⟨te_wo_copy, pk_wo, tx_wo_copy oG, rfl⟩
def tb_wo_add : gk_T := [(0, .aload_n 0, 1, 0), (1, .getfield 34, 4, 0), (4, .bipush 10, 6, 0), (6, .if_icmp .lt 5, 9, 11), (9, .iconst (-1), 10, 0), (10, .ireturn, 11, 0), (11, .aload_n 0, 12, 0), (12, .getfield 15, 15, 0), (15, .aload_n 0, 16, 0), (16, .getfield 34, 19, 0), (19, .iload_n 1, 20, 0), (20, .iastore, 21, 0), (21, .aload_n 0, 22, 0), (22, .dup, 23, 0), (23, .getfield 34, 26, 0), (26, .iconst 1, 27, 0), (27, .iadd, 28, 0), (28, .putfield 34, 31, 0), (31, .aload_n 0, 32, 0), (32, .getfield 34, 35, 0), (35, .iconst 1, 36, 0), (36, .isub, 37, 0), (37, .ireturn, 38, 0)]
def sw_wo_add : List (Nat × List (Int32 × Nat) × Nat) := []
set_option maxRecDepth 100000 in
theorem te_wo_add : ∀ q ∈ tb_wo_add, gk_eok (gk_M 115).2.1 q = true := by decide +kernel
set_option maxRecDepth 100000 in
theorem tx_wo_add (oG : List (Nat × gk_G)) : ∀ q ∈ tb_wo_add, gk_xok "DryPlaces$World" pl_wo (1, sw_wo_add, oG) q := by
  have h : tb_wo_add.all (fun q => gk_xokb "DryPlaces$World" pl_wo sw_wo_add q) = true := by decide +kernel
  exact fun q hq => gk_xok_of (List.all_eq_true.mp h q hq)
theorem ok_wo_add (oG : List (Nat × gk_G)) : gk_ok gk_M 115 tb_wo_add pl_wo (1, sw_wo_add, oG) := ⟨te_wo_add, pk_wo, tx_wo_add oG, rfl⟩
def tb_wo_has : gk_T := [(0, .iload_n 1, 1, 0), (1, .ifCond .lt 15, 4, 16), (4, .iload_n 1, 5, 0), (5, .aload_n 0, 6, 0), (6, .getfield 34, 9, 0), (9, .if_icmp .ge 7, 12, 16), (12, .iconst 1, 13, 0), (13, .goto 4, 16, 17), (16, .iconst 0, 17, 0), (17, .ireturn, 18, 0)]
def sw_wo_has : List (Nat × List (Int32 × Nat) × Nat) := []
set_option maxRecDepth 100000 in
theorem te_wo_has : ∀ q ∈ tb_wo_has, gk_eok (gk_M 116).2.1 q = true := by decide +kernel
set_option maxRecDepth 100000 in
theorem tx_wo_has (oG : List (Nat × gk_G)) : ∀ q ∈ tb_wo_has, gk_xok "DryPlaces$World" pl_wo (3, sw_wo_has, oG) q := by
  have h : tb_wo_has.all (fun q => gk_xokb "DryPlaces$World" pl_wo sw_wo_has q) = true := by decide +kernel
  exact fun q hq => gk_xok_of (List.all_eq_true.mp h q hq)
theorem ok_wo_has (oG : List (Nat × gk_G)) : gk_ok gk_M 116 tb_wo_has pl_wo (3, sw_wo_has, oG) := ⟨te_wo_has, pk_wo, tx_wo_has oG, rfl⟩
def tb_wo_isOwned : gk_T := [(0, .aload_n 0, 1, 0), (1, .getfield 38, 4, 0), (4, .iload_n 1, 5, 0), (5, .ishr, 6, 0), (6, .iconst 1, 7, 0), (7, .iand, 8, 0), (8, .ifCond .eq 7, 11, 15), (11, .iconst 1, 12, 0), (12, .goto 4, 15, 16), (15, .iconst 0, 16, 0), (16, .ireturn, 17, 0)]
def sw_wo_isOwned : List (Nat × List (Int32 × Nat) × Nat) := []
set_option maxRecDepth 100000 in
theorem te_wo_isOwned : ∀ q ∈ tb_wo_isOwned, gk_eok (gk_M 117).2.1 q = true := by decide +kernel
set_option maxRecDepth 100000 in
theorem tx_wo_isOwned (oG : List (Nat × gk_G)) : ∀ q ∈ tb_wo_isOwned, gk_xok "DryPlaces$World" pl_wo (3, sw_wo_isOwned, oG) q := by
  have h : tb_wo_isOwned.all (fun q => gk_xokb "DryPlaces$World" pl_wo sw_wo_isOwned q) = true := by decide +kernel
  exact fun q hq => gk_xok_of (List.all_eq_true.mp h q hq)
theorem ok_wo_isOwned (oG : List (Nat × gk_G)) : gk_ok gk_M 117 tb_wo_isOwned pl_wo (3, sw_wo_isOwned, oG) := ⟨te_wo_isOwned, pk_wo, tx_wo_isOwned oG, rfl⟩
def tb_wo_isHosed : gk_T := [(0, .aload_n 0, 1, 0), (1, .getfield 41, 4, 0), (4, .iload_n 1, 5, 0), (5, .ishr, 6, 0), (6, .iconst 1, 7, 0), (7, .iand, 8, 0), (8, .ifCond .eq 7, 11, 15), (11, .iconst 1, 12, 0), (12, .goto 4, 15, 16), (15, .iconst 0, 16, 0), (16, .ireturn, 17, 0)]
def sw_wo_isHosed : List (Nat × List (Int32 × Nat) × Nat) := []
set_option maxRecDepth 100000 in
theorem te_wo_isHosed : ∀ q ∈ tb_wo_isHosed, gk_eok (gk_M 118).2.1 q = true := by decide +kernel
set_option maxRecDepth 100000 in
theorem tx_wo_isHosed (oG : List (Nat × gk_G)) : ∀ q ∈ tb_wo_isHosed, gk_xok "DryPlaces$World" pl_wo (3, sw_wo_isHosed, oG) q := by
  have h : tb_wo_isHosed.all (fun q => gk_xokb "DryPlaces$World" pl_wo sw_wo_isHosed q) = true := by decide +kernel
  exact fun q hq => gk_xok_of (List.all_eq_true.mp h q hq)
theorem ok_wo_isHosed (oG : List (Nat × gk_G)) : gk_ok gk_M 118 tb_wo_isHosed pl_wo (3, sw_wo_isHosed, oG) := ⟨te_wo_isHosed, pk_wo, tx_wo_isHosed oG, rfl⟩
def tb_wo_isShown : gk_T := [(0, .aload_n 0, 1, 0), (1, .iload_n 1, 2, 0), (2, .invokevirtual 65, 5, 0), (5, .ifCond .eq 17, 8, 22), (8, .aload_n 0, 9, 0), (9, .getfield 19, 12, 0), (12, .iload_n 1, 13, 0), (13, .iaload, 14, 0), (14, .iconst (-1), 15, 0), (15, .if_icmp .eq 7, 18, 22), (18, .iconst 1, 19, 0), (19, .goto 4, 22, 23), (22, .iconst 0, 23, 0), (23, .ireturn, 24, 0)]
def sw_wo_isShown : List (Nat × List (Int32 × Nat) × Nat) := []
set_option maxRecDepth 100000 in
theorem te_wo_isShown : ∀ q ∈ tb_wo_isShown, gk_eok (gk_M 119).2.1 q = true := by decide +kernel
set_option maxRecDepth 100000 in
theorem tx_wo_isShown (oG : List (Nat × gk_G)) : ∀ q ∈ tb_wo_isShown, gk_xok "DryPlaces$World" pl_wo (3, sw_wo_isShown, oG) q := by
  have h : tb_wo_isShown.all (fun q => gk_xokb "DryPlaces$World" pl_wo sw_wo_isShown q) = true := by decide +kernel
  exact fun q hq => gk_xok_of (List.all_eq_true.mp h q hq)
theorem ok_wo_isShown (oG : List (Nat × gk_G)) : gk_ok gk_M 119 tb_wo_isShown pl_wo (3, sw_wo_isShown, oG) := ⟨te_wo_isShown, pk_wo, tx_wo_isShown oG, rfl⟩
def tb_wo_earn : gk_T := [(0, .aload_n 0, 1, 0), (1, .ldc 69, 3, 0), (3, .aload_n 0, 4, 0), (4, .getfield 44, 7, 0), (7, .iload_n 1, 8, 0), (8, .iadd, 9, 0), (9, .invokestatic 70, 12, 0), (12, .putfield 44, 15, 0), (15, .return_, 16, 0)]
def sw_wo_earn : List (Nat × List (Int32 × Nat) × Nat) := []
set_option maxRecDepth 100000 in
theorem te_wo_earn : ∀ q ∈ tb_wo_earn, gk_eok (gk_M 120).2.1 q = true := by decide +kernel
set_option maxRecDepth 100000 in
theorem tx_wo_earn (oG : List (Nat × gk_G)) : ∀ q ∈ tb_wo_earn, gk_xok "DryPlaces$World" pl_wo (0, sw_wo_earn, oG) q := by
  have h : tb_wo_earn.all (fun q => gk_xokb "DryPlaces$World" pl_wo sw_wo_earn q) = true := by decide +kernel
  exact fun q hq => gk_xok_of (List.all_eq_true.mp h q hq)
theorem ok_wo_earn (oG : List (Nat × gk_G)) : gk_ok gk_M 120 tb_wo_earn pl_wo (0, sw_wo_earn, oG) := ⟨te_wo_earn, pk_wo, tx_wo_earn oG, rfl⟩
def tb_wo_drawOfThousand : gk_T := [(0, .aload_n 0, 1, 0), (1, .ldc 76, 3, 0), (3, .aload_n 0, 4, 0), (4, .getfield 53, 7, 0), (7, .imul, 8, 0), (8, .ldc 77, 10, 0), (10, .iadd, 11, 0), (11, .putfield 53, 14, 0), (14, .aload_n 0, 15, 0), (15, .getfield 53, 18, 0), (18, .bipush 8, 20, 0), (20, .iushr, 21, 0), (21, .sipush 1000, 24, 0), (24, .irem, 25, 0), (25, .ireturn, 26, 0)]
def sw_wo_drawOfThousand : List (Nat × List (Int32 × Nat) × Nat) := []
set_option maxRecDepth 100000 in
theorem te_wo_drawOfThousand : ∀ q ∈ tb_wo_drawOfThousand, gk_eok (gk_M 121).2.1 q = true := by decide +kernel
set_option maxRecDepth 100000 in
theorem tx_wo_drawOfThousand (oG : List (Nat × gk_G)) : ∀ q ∈ tb_wo_drawOfThousand, gk_xok "DryPlaces$World" pl_wo (1, sw_wo_drawOfThousand, oG) q := by
  have h : tb_wo_drawOfThousand.all (fun q => gk_xokb "DryPlaces$World" pl_wo sw_wo_drawOfThousand q) = true := by decide +kernel
  exact fun q hq => gk_xok_of (List.all_eq_true.mp h q hq)
theorem ok_wo_drawOfThousand (oG : List (Nat × gk_G)) : gk_ok gk_M 121 tb_wo_drawOfThousand pl_wo (1, sw_wo_drawOfThousand, oG) := ⟨te_wo_drawOfThousand, pk_wo, tx_wo_drawOfThousand oG, rfl⟩
def tb_wo_dryOf : gk_T := [(0, .iconst 0, 1, 0), (1, .istore_n 2, 2, 0), (2, .iconst 0, 3, 0), (3, .istore_n 3, 4, 0), (4, .iload_n 3, 5, 0), (5, .aload_n 0, 6, 0), (6, .getfield 34, 9, 0), (9, .if_icmp .ge 29, 12, 38), (12, .iload_n 1, 13, 0), (13, .iload_n 3, 14, 0), (14, .ishr, 15, 0), (15, .iconst 1, 16, 0), (16, .iand, 17, 0), (17, .ifCond .eq 15, 20, 32), (20, .iload_n 2, 21, 0), (21, .aload_n 0, 22, 0), (22, .getfield 9, 25, 0), (25, .iload_n 3, 26, 0), (26, .laload, 27, 0), (27, .invokestatic 78, 30, 0), (30, .iadd, 31, 0), (31, .istore_n 2, 32, 0), (32, .iinc 3 1, 35, 0), (35, .goto (-31), 38, 4), (38, .iload_n 2, 39, 0), (39, .ireturn, 40, 0)]
def sw_wo_dryOf : List (Nat × List (Int32 × Nat) × Nat) := []
set_option maxRecDepth 100000 in
theorem te_wo_dryOf : ∀ q ∈ tb_wo_dryOf, gk_eok (gk_M 122).2.1 q = true := by decide +kernel
set_option maxRecDepth 100000 in
theorem tx_wo_dryOf (oG : List (Nat × gk_G)) : ∀ q ∈ tb_wo_dryOf, gk_xok "DryPlaces$World" pl_wo (1, sw_wo_dryOf, oG) q := by
  have h : tb_wo_dryOf.all (fun q => gk_xokb "DryPlaces$World" pl_wo sw_wo_dryOf q) = true := by decide +kernel
  exact fun q hq => gk_xok_of (List.all_eq_true.mp h q hq)
theorem ok_wo_dryOf (oG : List (Nat × gk_G)) : gk_ok gk_M 122 tb_wo_dryOf pl_wo (1, sw_wo_dryOf, oG) := ⟨te_wo_dryOf, pk_wo, tx_wo_dryOf oG, rfl⟩
def tb_wo_dryOfOwned : gk_T := [(0, .aload_n 0, 1, 0), (1, .aload_n 0, 2, 0), (2, .getfield 38, 5, 0), (5, .invokevirtual 84, 8, 0), (8, .ireturn, 9, 0)]
def sw_wo_dryOfOwned : List (Nat × List (Int32 × Nat) × Nat) := []
set_option maxRecDepth 100000 in
theorem te_wo_dryOfOwned : ∀ q ∈ tb_wo_dryOfOwned, gk_eok (gk_M 123).2.1 q = true := by decide +kernel
set_option maxRecDepth 100000 in
theorem tx_wo_dryOfOwned (oG : List (Nat × gk_G)) : ∀ q ∈ tb_wo_dryOfOwned, gk_xok "DryPlaces$World" pl_wo (1, sw_wo_dryOfOwned, oG) q := by
  have h : tb_wo_dryOfOwned.all (fun q => gk_xokb "DryPlaces$World" pl_wo sw_wo_dryOfOwned q) = true := by decide +kernel
  exact fun q hq => gk_xok_of (List.all_eq_true.mp h q hq)
theorem ok_wo_dryOfOwned (oG : List (Nat × gk_G)) : gk_ok gk_M 123 tb_wo_dryOfOwned pl_wo (1, sw_wo_dryOfOwned, oG) := ⟨te_wo_dryOfOwned, pk_wo, tx_wo_dryOfOwned oG, rfl⟩
def tb_dp_init : gk_T := [(0, .aload_n 0, 1, 0), (1, .invokespecial 3, 4, 0), (4, .aload_n 0, 5, 0), (5, .new 9, 8, 0), (8, .dup, 9, 0), (9, .invokespecial 11, 12, 0), (12, .putfield 12, 15, 0), (15, .aload_n 0, 16, 0), (16, .new 16, 19, 0), (19, .dup, 20, 0), (20, .invokespecial 18, 23, 0), (23, .putfield 19, 26, 0), (26, .aload_n 0, 27, 0), (27, .sipush 600, 30, 0), (30, .newarray .int, 32, 0), (32, .putfield 23, 35, 0), (35, .aload_n 0, 36, 0), (36, .new 27, 39, 0), (39, .dup, 40, 0), (40, .invokespecial 29, 43, 0), (43, .putfield 30, 46, 0), (46, .aload_n 0, 47, 0), (47, .new 34, 50, 0), (50, .dup, 51, 0), (51, .invokespecial 36, 54, 0), (54, .putfield 37, 57, 0), (57, .aload_n 0, 58, 0), (58, .new 41, 61, 0), (61, .dup, 62, 0), (62, .aload_n 0, 63, 0), (63, .getfield 37, 66, 0), (66, .invokespecial 43, 69, 0), (69, .putfield 46, 72, 0), (72, .aload_n 0, 73, 0), (73, .new 50, 76, 0), (76, .dup, 77, 0), (77, .aload_n 0, 78, 0), (78, .getfield 19, 81, 0), (81, .getfield 52, 84, 0), (84, .invokespecial 56, 87, 0), (87, .putfield 59, 90, 0), (90, .aload_n 0, 91, 0), (91, .new 63, 94, 0), (94, .dup, 95, 0), (95, .aload_n 0, 96, 0), (96, .getfield 12, 99, 0), (99, .aload_n 0, 100, 0), (100, .getfield 19, 103, 0), (103, .aload_n 0, 104, 0), (104, .getfield 59, 107, 0), (107, .aload_n 0, 108, 0), (108, .getfield 23, 111, 0), (111, .invokespecial 65, 114, 0), (114, .putfield 68, 117, 0), (117, .aload_n 0, 118, 0), (118, .new 9, 121, 0), (121, .dup, 122, 0), (122, .invokespecial 11, 125, 0), (125, .putfield 72, 128, 0), (128, .aload_n 0, 129, 0), (129, .new 63, 132, 0), (132, .dup, 133, 0), (133, .aload_n 0, 134, 0), (134, .getfield 72, 137, 0), (137, .aload_n 0, 138, 0), (138, .getfield 19, 141, 0), (141, .aload_n 0, 142, 0), (142, .getfield 59, 145, 0), (145, .aconst_null, 146, 0), (146, .invokespecial 65, 149, 0), (149, .putfield 75, 152, 0), (152, .aload_n 0, 153, 0), (153, .new 78, 156, 0), (156, .dup, 157, 0), (157, .invokespecial 80, 160, 0), (160, .putfield 81, 163, 0), (163, .aload_n 0, 164, 0), (164, .bipush 10, 166, 0), (166, .newarray .int, 168, 0), (168, .putfield 85, 171, 0), (171, .aload_n 0, 172, 0), (172, .new 9, 175, 0), (175, .dup, 176, 0), (176, .invokespecial 11, 179, 0), (179, .putfield 88, 182, 0), (182, .aload_n 0, 183, 0), (183, .new 16, 186, 0), (186, .dup, 187, 0), (187, .invokespecial 18, 190, 0), (190, .putfield 91, 193, 0), (193, .aload_n 0, 194, 0), (194, .sipush 600, 197, 0), (197, .newarray .int, 199, 0), (199, .putfield 94, 202, 0), (202, .return_, 203, 0)]
def sw_dp_init : List (Nat × List (Int32 × Nat) × Nat) := []
set_option maxRecDepth 100000 in
theorem te_dp_init : ∀ q ∈ tb_dp_init, gk_eok (gk_M 124).2.1 q = true := by decide +kernel
set_option maxRecDepth 100000 in
theorem tx_dp_init (oG : List (Nat × gk_G)) : ∀ q ∈ tb_dp_init, gk_xok "DryPlaces" pl_dp (0, sw_dp_init, oG) q := by
  have h : tb_dp_init.all (fun q => gk_xokb "DryPlaces" pl_dp sw_dp_init q) = true := by decide +kernel
  exact fun q hq => gk_xok_of (List.all_eq_true.mp h q hq)
theorem ok_dp_init (oG : List (Nat × gk_G)) : gk_ok gk_M 124 tb_dp_init pl_dp (0, sw_dp_init, oG) := ⟨te_dp_init, pk_dp, tx_dp_init oG, rfl⟩
def tb_dp_state : gk_T := [(0, .aload_n 0, 1, 0), (1, .getfield 12, 4, 0), (4, .getfield 97, 7, 0), (7, .istore_n 2, 8, 0), (8, .aload_n 0, 9, 0), (9, .getfield 12, 12, 0), (12, .iload_n 1, 13, 0), (13, .putfield 97, 16, 0), (16, .aload_n 0, 17, 0), (17, .getfield 30, 20, 0), (20, .invokevirtual 101, 23, 0), (23, .iload_n 2, 24, 0), (24, .ireturn, 25, 0)]
def sw_dp_state : List (Nat × List (Int32 × Nat) × Nat) := []
set_option maxRecDepth 100000 in
theorem te_dp_state : ∀ q ∈ tb_dp_state, gk_eok (gk_M 125).2.1 q = true := by decide +kernel
set_option maxRecDepth 100000 in
theorem tx_dp_state (oG : List (Nat × gk_G)) : ∀ q ∈ tb_dp_state, gk_xok "DryPlaces" pl_dp (1, sw_dp_state, oG) q := by
  have h : tb_dp_state.all (fun q => gk_xokb "DryPlaces" pl_dp sw_dp_state q) = true := by decide +kernel
  exact fun q hq => gk_xok_of (List.all_eq_true.mp h q hq)
theorem ok_dp_state (oG : List (Nat × gk_G)) : gk_ok gk_M 125 tb_dp_state pl_dp (1, sw_dp_state, oG) := ⟨te_dp_state, pk_dp, tx_dp_state oG, rfl⟩
def tb_dp_place : gk_T := [(0, .iload_n 1, 1, 0), (1, .iconst 0, 2, 0), (2, .bipush 99, 4, 0), (4, .invokestatic 104, 7, 0), (7, .ifCond .eq 15, 10, 22), (10, .aload_n 0, 11, 0), (11, .getfield 12, 14, 0), (14, .getfield 108, 17, 0), (17, .bipush 10, 19, 0), (19, .if_icmp .lt 5, 22, 24), (22, .iconst (-1), 23, 0), (23, .ireturn, 24, 0), (24, .aload_n 0, 25, 0), (25, .getfield 30, 28, 0), (28, .invokevirtual 101, 31, 0), (31, .aload_n 0, 32, 0), (32, .getfield 12, 35, 0), (35, .iload_n 1, 36, 0), (36, .invokevirtual 111, 39, 0), (39, .ireturn, 40, 0)]
def sw_dp_place : List (Nat × List (Int32 × Nat) × Nat) := []
set_option maxRecDepth 100000 in
theorem te_dp_place : ∀ q ∈ tb_dp_place, gk_eok (gk_M 126).2.1 q = true := by decide +kernel
set_option maxRecDepth 100000 in
theorem tx_dp_place (oG : List (Nat × gk_G)) : ∀ q ∈ tb_dp_place, gk_xok "DryPlaces" pl_dp (1, sw_dp_place, oG) q := by
  have h : tb_dp_place.all (fun q => gk_xokb "DryPlaces" pl_dp sw_dp_place q) = true := by decide +kernel
  exact fun q hq => gk_xok_of (List.all_eq_true.mp h q hq)
theorem ok_dp_place (oG : List (Nat × gk_G)) : gk_ok gk_M 126 tb_dp_place pl_dp (1, sw_dp_place, oG) := ⟨te_dp_place, pk_dp, tx_dp_place oG, rfl⟩
def tb_dp_row : gk_T := [(0, .aload_n 0, 1, 0), (1, .getfield 12, 4, 0), (4, .iload_n 1, 5, 0), (5, .invokevirtual 115, 8, 0), (8, .ifCond .eq 24, 11, 32), (11, .iload_n 2, 12, 0), (12, .iconst 0, 13, 0), (13, .bipush 7, 15, 0), (15, .invokestatic 104, 18, 0), (18, .ifCond .eq 14, 21, 32), (21, .iload_n 3, 22, 0), (22, .iconst 0, 23, 0), (23, .sipush 255, 26, 0), (26, .invokestatic 104, 29, 0), (29, .ifCond .ne 5, 32, 34), (32, .iconst 0, 33, 0), (33, .ireturn, 34, 0), (34, .aload_n 0, 35, 0), (35, .getfield 30, 38, 0), (38, .invokevirtual 101, 41, 0), (41, .aload_n 0, 42, 0), (42, .getfield 12, 45, 0), (45, .getfield 119, 48, 0), (48, .iload_n 1, 49, 0), (49, .aload_n 0, 50, 0), (50, .getfield 12, 53, 0), (53, .getfield 119, 56, 0), (56, .iload_n 1, 57, 0), (57, .laload, 58, 0), (58, .iload_n 2, 59, 0), (59, .iload_n 3, 60, 0), (60, .invokestatic 123, 63, 0), (63, .lastore, 64, 0), (64, .iconst 1, 65, 0), (65, .ireturn, 66, 0)]
def sw_dp_row : List (Nat × List (Int32 × Nat) × Nat) := []
set_option maxRecDepth 100000 in
theorem te_dp_row : ∀ q ∈ tb_dp_row, gk_eok (gk_M 127).2.1 q = true := by decide +kernel
set_option maxRecDepth 100000 in
theorem tx_dp_row (oG : List (Nat × gk_G)) : ∀ q ∈ tb_dp_row, gk_xok "DryPlaces" pl_dp (3, sw_dp_row, oG) q := by
  have h : tb_dp_row.all (fun q => gk_xokb "DryPlaces" pl_dp sw_dp_row q) = true := by decide +kernel
  exact fun q hq => gk_xok_of (List.all_eq_true.mp h q hq)
theorem ok_dp_row (oG : List (Nat × gk_G)) : gk_ok gk_M 127 tb_dp_row pl_dp (3, sw_dp_row, oG) := ⟨te_dp_row, pk_dp, tx_dp_row oG, rfl⟩
def tb_dp_purse : gk_T := [(0, .iload_n 1, 1, 0), (1, .iconst 0, 2, 0), (2, .ldc 129, 4, 0), (4, .invokestatic 104, 7, 0), (7, .ifCond .ne 5, 10, 12), (10, .iconst 0, 11, 0), (11, .ireturn, 12, 0), (12, .aload_n 0, 13, 0), (13, .getfield 30, 16, 0), (16, .invokevirtual 101, 19, 0), (19, .aload_n 0, 20, 0), (20, .getfield 12, 23, 0), (23, .iload_n 1, 24, 0), (24, .putfield 130, 27, 0), (27, .iconst 1, 28, 0), (28, .ireturn, 29, 0)]
def sw_dp_purse : List (Nat × List (Int32 × Nat) × Nat) := []
set_option maxRecDepth 100000 in
theorem te_dp_purse : ∀ q ∈ tb_dp_purse, gk_eok (gk_M 128).2.1 q = true := by decide +kernel
set_option maxRecDepth 100000 in
theorem tx_dp_purse (oG : List (Nat × gk_G)) : ∀ q ∈ tb_dp_purse, gk_xok "DryPlaces" pl_dp (3, sw_dp_purse, oG) q := by
  have h : tb_dp_purse.all (fun q => gk_xokb "DryPlaces" pl_dp sw_dp_purse q) = true := by decide +kernel
  exact fun q hq => gk_xok_of (List.all_eq_true.mp h q hq)
theorem ok_dp_purse (oG : List (Nat × gk_G)) : gk_ok gk_M 128 tb_dp_purse pl_dp (3, sw_dp_purse, oG) := ⟨te_dp_purse, pk_dp, tx_dp_purse oG, rfl⟩
def tb_dp_act : gk_T := [(0, .aload_n 0, 1, 0), (1, .getfield 68, 4, 0), (4, .iload_n 1, 5, 0), (5, .iload_n 2, 6, 0), (6, .iload_n 3, 7, 0), (7, .invokevirtual 133, 10, 0), (10, .ifCond .ne 5, 13, 15), (13, .iconst 0, 14, 0), (14, .ireturn, 15, 0), (15, .aload_n 0, 16, 0), (16, .getfield 30, 19, 0), (19, .aload_n 0, 20, 0), (20, .getfield 12, 23, 0), (23, .invokevirtual 136, 26, 0), (26, .aload_n 0, 27, 0), (27, .getfield 68, 30, 0), (30, .iload_n 1, 31, 0), (31, .iload_n 2, 32, 0), (32, .iload_n 3, 33, 0), (33, .invokevirtual 140, 36, 0), (36, .iconst 1, 37, 0), (37, .ireturn, 38, 0)]
def sw_dp_act : List (Nat × List (Int32 × Nat) × Nat) := []
set_option maxRecDepth 100000 in
theorem te_dp_act : ∀ q ∈ tb_dp_act, gk_eok (gk_M 129).2.1 q = true := by decide +kernel
set_option maxRecDepth 100000 in
theorem tx_dp_act (oG : List (Nat × gk_G)) : ∀ q ∈ tb_dp_act, gk_xok "DryPlaces" pl_dp (3, sw_dp_act, oG) q := by
  have h : tb_dp_act.all (fun q => gk_xokb "DryPlaces" pl_dp sw_dp_act q) = true := by decide +kernel
  exact fun q hq => gk_xok_of (List.all_eq_true.mp h q hq)
theorem ok_dp_act (oG : List (Nat × gk_G)) : gk_ok gk_M 129 tb_dp_act pl_dp (3, sw_dp_act, oG) := ⟨te_dp_act, pk_dp, tx_dp_act oG, rfl⟩
def tb_dp_days : gk_T := [(0, .iload_n 1, 1, 0), (1, .iconst 1, 2, 0), (2, .bipush 60, 4, 0), (4, .invokestatic 104, 7, 0), (7, .ifCond .eq 18, 10, 25), (10, .aload_n 0, 11, 0), (11, .getfield 12, 14, 0), (14, .getfield 144, 17, 0), (17, .iload_n 1, 18, 0), (18, .iadd, 19, 0), (19, .sipush 9999, 22, 0), (22, .if_icmp .le 5, 25, 27), (25, .iconst (-1), 26, 0), (26, .ireturn, 27, 0), (27, .iconst 0, 28, 0), (28, .istore_n 2, 29, 0), (29, .iconst 0, 30, 0), (30, .istore_n 3, 31, 0), (31, .iload_n 3, 32, 0), (32, .iload_n 1, 33, 0), (33, .if_icmp .ge 30, 36, 63), (36, .aload_n 0, 37, 0), (37, .getfield 30, 40, 0), (40, .aload_n 0, 41, 0), (41, .getfield 12, 44, 0), (44, .invokevirtual 136, 47, 0), (47, .iload_n 2, 48, 0), (48, .aload_n 0, 49, 0), (49, .getfield 68, 52, 0), (52, .invokevirtual 147, 55, 0), (55, .iadd, 56, 0), (56, .istore_n 2, 57, 0), (57, .iinc 3 1, 60, 0), (60, .goto (-29), 63, 31), (63, .iload_n 2, 64, 0), (64, .ireturn, 65, 0)]
def sw_dp_days : List (Nat × List (Int32 × Nat) × Nat) := []
set_option maxRecDepth 100000 in
theorem te_dp_days : ∀ q ∈ tb_dp_days, gk_eok (gk_M 130).2.1 q = true := by decide +kernel
set_option maxRecDepth 100000 in
theorem tx_dp_days (oG : List (Nat × gk_G)) : ∀ q ∈ tb_dp_days, gk_xok "DryPlaces" pl_dp (1, sw_dp_days, oG) q := by
  have h : tb_dp_days.all (fun q => gk_xokb "DryPlaces" pl_dp sw_dp_days q) = true := by decide +kernel
  exact fun q hq => gk_xok_of (List.all_eq_true.mp h q hq)
theorem ok_dp_days (oG : List (Nat × gk_G)) : gk_ok gk_M 130 tb_dp_days pl_dp (1, sw_dp_days, oG) := ⟨te_dp_days, pk_dp, tx_dp_days oG, rfl⟩
def tb_dp_feed : gk_T := [(0, .aload_n 0, 1, 0), (1, .getfield 37, 4, 0), (4, .invokevirtual 151, 7, 0), (7, .ifCond .ne 5, 10, 12), (10, .iconst (-1), 11, 0), (11, .ireturn, 12, 0), (12, .aload_n 0, 13, 0), (13, .getfield 37, 16, 0), (16, .iload_n 1, 17, 0), (17, .invokevirtual 155, 20, 0), (20, .aload_n 0, 21, 0), (21, .getfield 37, 24, 0), (24, .iload_n 2, 25, 0), (25, .invokevirtual 155, 28, 0), (28, .aload_n 0, 29, 0), (29, .getfield 37, 32, 0), (32, .iload_n 3, 33, 0), (33, .invokevirtual 155, 36, 0), (36, .aload_n 0, 37, 0), (37, .getfield 37, 40, 0), (40, .iload 4, 42, 0), (42, .invokevirtual 155, 45, 0), (45, .aload_n 0, 46, 0), (46, .getfield 37, 49, 0), (49, .iload 5, 51, 0), (51, .invokevirtual 155, 54, 0), (54, .aload_n 0, 55, 0), (55, .getfield 37, 58, 0), (58, .getfield 159, 61, 0), (61, .ireturn, 62, 0)]
def sw_dp_feed : List (Nat × List (Int32 × Nat) × Nat) := []
set_option maxRecDepth 100000 in
theorem te_dp_feed : ∀ q ∈ tb_dp_feed, gk_eok (gk_M 131).2.1 q = true := by decide +kernel
set_option maxRecDepth 100000 in
theorem tx_dp_feed (oG : List (Nat × gk_G)) : ∀ q ∈ tb_dp_feed, gk_xok "DryPlaces" pl_dp (1, sw_dp_feed, oG) q := by
  have h : tb_dp_feed.all (fun q => gk_xokb "DryPlaces" pl_dp sw_dp_feed q) = true := by decide +kernel
  exact fun q hq => gk_xok_of (List.all_eq_true.mp h q hq)
theorem ok_dp_feed (oG : List (Nat × gk_G)) : gk_ok gk_M 131 tb_dp_feed pl_dp (1, sw_dp_feed, oG) := ⟨te_dp_feed, pk_dp, tx_dp_feed oG, rfl⟩
def tb_dp_end : gk_T := [(0, .iload_n 1, 1, 0), (1, .iconst 0, 2, 0), (2, .aload_n 0, 3, 0), (3, .getfield 37, 6, 0), (6, .getfield 159, 9, 0), (9, .invokestatic 104, 12, 0), (12, .ifCond .ne 5, 15, 17), (15, .iconst 0, 16, 0), (16, .ireturn, 17, 0), (17, .aload_n 0, 18, 0), (18, .getfield 37, 21, 0), (21, .iload_n 1, 22, 0), (22, .putfield 159, 25, 0), (25, .iconst 1, 26, 0), (26, .ireturn, 27, 0)]
def sw_dp_end : List (Nat × List (Int32 × Nat) × Nat) := []
set_option maxRecDepth 100000 in
theorem te_dp_end : ∀ q ∈ tb_dp_end, gk_eok (gk_M 132).2.1 q = true := by decide +kernel
set_option maxRecDepth 100000 in
theorem tx_dp_end (oG : List (Nat × gk_G)) : ∀ q ∈ tb_dp_end, gk_xok "DryPlaces" pl_dp (3, sw_dp_end, oG) q := by
  have h : tb_dp_end.all (fun q => gk_xokb "DryPlaces" pl_dp sw_dp_end q) = true := by decide +kernel
  exact fun q hq => gk_xok_of (List.all_eq_true.mp h q hq)
theorem ok_dp_end (oG : List (Nat × gk_G)) : gk_ok gk_M 132 tb_dp_end pl_dp (3, sw_dp_end, oG) := ⟨te_dp_end, pk_dp, tx_dp_end oG, rfl⟩
def tb_dp_text : gk_T := [(0, .aload_n 0, 1, 0), (1, .getfield 46, 4, 0), (4, .iload_n 1, 5, 0), (5, .aload_n 0, 6, 0), (6, .getfield 12, 9, 0), (9, .getfield 108, 12, 0), (12, .invokevirtual 162, 15, 0), (15, .istore_n 2, 16, 0), (16, .aload_n 0, 17, 0), (17, .getfield 37, 20, 0), (20, .iconst 0, 21, 0), (21, .putfield 159, 24, 0), (24, .iload_n 2, 25, 0), (25, .ifCond .ne 5, 28, 30), (28, .iconst (-1), 29, 0), (29, .ireturn, 30, 0), (30, .iload_n 1, 31, 0), (31, .iconst 2, 32, 0), (32, .if_icmp .ne 10, 35, 42), (35, .aload_n 0, 36, 0), (36, .getfield 30, 39, 0), (39, .invokevirtual 101, 42, 0), (42, .aload_n 0, 43, 0), (43, .getfield 19, 46, 0), (46, .iload_n 1, 47, 0), (47, .aload_n 0, 48, 0), (48, .getfield 46, 51, 0), (51, .getfield 166, 54, 0), (54, .invokevirtual 169, 57, 0), (57, .aload_n 0, 58, 0), (58, .getfield 19, 61, 0), (61, .iload_n 1, 62, 0), (62, .invokevirtual 173, 65, 0), (65, .ireturn, 66, 0)]
def sw_dp_text : List (Nat × List (Int32 × Nat) × Nat) := []
set_option maxRecDepth 100000 in
theorem te_dp_text : ∀ q ∈ tb_dp_text, gk_eok (gk_M 133).2.1 q = true := by decide +kernel
set_option maxRecDepth 100000 in
theorem tx_dp_text (oG : List (Nat × gk_G)) : ∀ q ∈ tb_dp_text, gk_xok "DryPlaces" pl_dp (1, sw_dp_text, oG) q := by
  have h : tb_dp_text.all (fun q => gk_xokb "DryPlaces" pl_dp sw_dp_text q) = true := by decide +kernel
  exact fun q hq => gk_xok_of (List.all_eq_true.mp h q hq)
theorem ok_dp_text (oG : List (Nat × gk_G)) : gk_ok gk_M 133 tb_dp_text pl_dp (1, sw_dp_text, oG) := ⟨te_dp_text, pk_dp, tx_dp_text oG, rfl⟩
def tb_dp_fault : gk_T := [(0, .iload_n 1, 1, 0), (1, .lookupswitch 43 #[(0, 27), (1, 35)], 28, 0), (28, .aload_n 0, 29, 0), (29, .getfield 46, 32, 0), (32, .getfield 175, 35, 0), (35, .ireturn, 36, 0), (36, .aload_n 0, 37, 0), (37, .getfield 46, 40, 0), (40, .getfield 178, 43, 0), (43, .ireturn, 44, 0), (44, .iconst (-1), 45, 0), (45, .ireturn, 46, 0)]
def sw_dp_fault : List (Nat × List (Int32 × Nat) × Nat) := [(1, [(0, 28), (1, 36)], 44)]
set_option maxRecDepth 100000 in
theorem te_dp_fault : ∀ q ∈ tb_dp_fault, gk_eok (gk_M 134).2.1 q = true := by decide +kernel
set_option maxRecDepth 100000 in
theorem tx_dp_fault (oG : List (Nat × gk_G)) : ∀ q ∈ tb_dp_fault, gk_xok "DryPlaces" pl_dp (1, sw_dp_fault, oG) q := by
  have h : tb_dp_fault.all (fun q => gk_xokb "DryPlaces" pl_dp sw_dp_fault q) = true := by decide +kernel
  exact fun q hq => gk_xok_of (List.all_eq_true.mp h q hq)
theorem ok_dp_fault (oG : List (Nat × gk_G)) : gk_ok gk_M 134 tb_dp_fault pl_dp (1, sw_dp_fault, oG) := ⟨te_dp_fault, pk_dp, tx_dp_fault oG, rfl⟩
def tb_dp_of : gk_T := [(0, .aload_n 0, 1, 0), (1, .getfield 12, 4, 0), (4, .iload_n 1, 5, 0), (5, .invokevirtual 115, 8, 0), (8, .ifCond .ne 6, 11, 14), (11, .bipush (-2), 13, 0), (13, .ireturn, 14, 0), (14, .iload_n 2, 15, 0), (15, .bipush 10, 17, 0), (17, .bipush 17, 19, 0), (19, .invokestatic 104, 22, 0), (22, .ifCond .eq 20, 25, 42), (25, .aload_n 0, 26, 0), (26, .getfield 12, 29, 0), (29, .getfield 119, 32, 0), (32, .iload_n 1, 33, 0), (33, .laload, 34, 0), (34, .iload_n 2, 35, 0), (35, .bipush 10, 37, 0), (37, .isub, 38, 0), (38, .invokestatic 181, 41, 0), (41, .ireturn, 42, 0), (42, .iload_n 2, 43, 0), (43, .tableswitch 131 0 6 #[41, 51, 61, 78, 95, 105, 118], 84, 0), (84, .aload_n 0, 85, 0), (85, .getfield 12, 88, 0), (88, .getfield 185, 91, 0), (91, .iload_n 1, 92, 0), (92, .iaload, 93, 0), (93, .ireturn, 94, 0), (94, .aload_n 0, 95, 0), (95, .getfield 12, 98, 0), (98, .getfield 188, 101, 0), (101, .iload_n 1, 102, 0), (102, .iaload, 103, 0), (103, .ireturn, 104, 0), (104, .aload_n 0, 105, 0), (105, .getfield 12, 108, 0), (108, .iload_n 1, 109, 0), (109, .invokevirtual 191, 112, 0), (112, .ifCond .eq 7, 115, 119), (115, .iconst 1, 116, 0), (116, .goto 4, 119, 120), (119, .iconst 0, 120, 0), (120, .ireturn, 121, 0), (121, .aload_n 0, 122, 0), (122, .getfield 12, 125, 0), (125, .iload_n 1, 126, 0), (126, .invokevirtual 194, 129, 0), (129, .ifCond .eq 7, 132, 136), (132, .iconst 1, 133, 0), (133, .goto 4, 136, 137), (136, .iconst 0, 137, 0), (137, .ireturn, 138, 0), (138, .aload_n 0, 139, 0), (139, .getfield 12, 142, 0), (142, .getfield 197, 145, 0), (145, .iload_n 1, 146, 0), (146, .iaload, 147, 0), (147, .ireturn, 148, 0), (148, .aload_n 0, 149, 0), (149, .getfield 59, 152, 0), (152, .aload_n 0, 153, 0), (153, .getfield 12, 156, 0), (156, .iload_n 1, 157, 0), (157, .invokevirtual 200, 160, 0), (160, .ireturn, 161, 0), (161, .aload_n 0, 162, 0), (162, .getfield 59, 165, 0), (165, .aload_n 0, 166, 0), (166, .getfield 12, 169, 0), (169, .iload_n 1, 170, 0), (170, .invokevirtual 204, 173, 0), (173, .ireturn, 174, 0), (174, .bipush (-2), 176, 0), (176, .ireturn, 177, 0)]
def sw_dp_of : List (Nat × List (Int32 × Nat) × Nat) := [(43, [(0, 84), (1, 94), (2, 104), (3, 121), (4, 138), (5, 148), (6, 161)], 174)]
set_option maxRecDepth 100000 in
theorem te_dp_of : ∀ q ∈ tb_dp_of, gk_eok (gk_M 135).2.1 q = true := by decide +kernel
set_option maxRecDepth 100000 in
theorem tx_dp_of (oG : List (Nat × gk_G)) : ∀ q ∈ tb_dp_of, gk_xok "DryPlaces" pl_dp (1, sw_dp_of, oG) q := by
  have h : tb_dp_of.all (fun q => gk_xokb "DryPlaces" pl_dp sw_dp_of q) = true := by decide +kernel
  exact fun q hq => gk_xok_of (List.all_eq_true.mp h q hq)
theorem ok_dp_of (oG : List (Nat × gk_G)) : gk_ok gk_M 135 tb_dp_of pl_dp (1, sw_dp_of, oG) := ⟨te_dp_of, pk_dp, tx_dp_of oG, rfl⟩
def tb_dp_creeps : gk_T := [(0, .aload_n 0, 1, 0), (1, .getfield 12, 4, 0), (4, .iload_n 1, 5, 0), (5, .invokevirtual 115, 8, 0), (8, .ifCond .eq 26, 11, 34), (11, .iload_n 2, 12, 0), (12, .invokestatic 207, 15, 0), (15, .ifCond .eq 19, 18, 34), (18, .aload_n 0, 19, 0), (19, .getfield 12, 22, 0), (22, .getfield 119, 25, 0), (25, .iload_n 1, 26, 0), (26, .laload, 27, 0), (27, .iload_n 2, 28, 0), (28, .invokestatic 210, 31, 0), (31, .ifCond .ne 5, 34, 36), (34, .iconst (-1), 35, 0), (35, .ireturn, 36, 0), (36, .aload_n 0, 37, 0), (37, .getfield 59, 40, 0), (40, .aload_n 0, 41, 0), (41, .getfield 12, 44, 0), (44, .iload_n 1, 45, 0), (45, .aload_n 0, 46, 0), (46, .getfield 12, 49, 0), (49, .getfield 119, 52, 0), (52, .iload_n 1, 53, 0), (53, .laload, 54, 0), (54, .iload_n 2, 55, 0), (55, .invokestatic 214, 58, 0), (58, .invokevirtual 217, 61, 0), (61, .ireturn, 62, 0)]
def sw_dp_creeps : List (Nat × List (Int32 × Nat) × Nat) := []
set_option maxRecDepth 100000 in
theorem te_dp_creeps : ∀ q ∈ tb_dp_creeps, gk_eok (gk_M 136).2.1 q = true := by decide +kernel
set_option maxRecDepth 100000 in
theorem tx_dp_creeps (oG : List (Nat × gk_G)) : ∀ q ∈ tb_dp_creeps, gk_xok "DryPlaces" pl_dp (1, sw_dp_creeps, oG) q := by
  have h : tb_dp_creeps.all (fun q => gk_xokb "DryPlaces" pl_dp sw_dp_creeps q) = true := by decide +kernel
  exact fun q hq => gk_xok_of (List.all_eq_true.mp h q hq)
theorem ok_dp_creeps (oG : List (Nat × gk_G)) : gk_ok gk_M 136 tb_dp_creeps pl_dp (1, sw_dp_creeps, oG) := ⟨te_dp_creeps, pk_dp, tx_dp_creeps oG, rfl⟩
def tb_dp_room : gk_T := [(0, .iload_n 1, 1, 0), (1, .invokestatic 221, 4, 0), (4, .ifCond .ne 6, 7, 10), (7, .bipush (-2), 9, 0), (9, .ireturn, 10, 0), (10, .iload_n 2, 11, 0), (11, .ifCond .ne 13, 14, 24), (14, .aload_n 0, 15, 0), (15, .getfield 12, 18, 0), (18, .getfield 224, 21, 0), (21, .iload_n 1, 22, 0), (22, .iaload, 23, 0), (23, .ireturn, 24, 0), (24, .iload_n 2, 25, 0), (25, .bipush 10, 27, 0), (27, .bipush 15, 29, 0), (29, .invokestatic 104, 32, 0), (32, .ifCond .ne 6, 35, 38), (35, .bipush (-2), 37, 0), (37, .ireturn, 38, 0), (38, .aload_n 0, 39, 0), (39, .getfield 19, 42, 0), (42, .getfield 227, 45, 0), (45, .iload_n 1, 46, 0), (46, .bipush 6, 48, 0), (48, .imul, 49, 0), (49, .iload_n 2, 50, 0), (50, .iadd, 51, 0), (51, .bipush 10, 53, 0), (53, .isub, 54, 0), (54, .iaload, 55, 0), (55, .istore_n 3, 56, 0), (56, .iload_n 3, 57, 0), (57, .ifCond .ne 7, 60, 64), (60, .iconst (-1), 61, 0), (61, .goto 4, 64, 65), (64, .iload_n 3, 65, 0), (65, .ireturn, 66, 0)]
def sw_dp_room : List (Nat × List (Int32 × Nat) × Nat) := []
set_option maxRecDepth 100000 in
theorem te_dp_room : ∀ q ∈ tb_dp_room, gk_eok (gk_M 137).2.1 q = true := by decide +kernel
set_option maxRecDepth 100000 in
theorem tx_dp_room (oG : List (Nat × gk_G)) : ∀ q ∈ tb_dp_room, gk_xok "DryPlaces" pl_dp (1, sw_dp_room, oG) q := by
  have h : tb_dp_room.all (fun q => gk_xokb "DryPlaces" pl_dp sw_dp_room q) = true := by decide +kernel
  exact fun q hq => gk_xok_of (List.all_eq_true.mp h q hq)
theorem ok_dp_room (oG : List (Nat × gk_G)) : gk_ok gk_M 137 tb_dp_room pl_dp (1, sw_dp_room, oG) := ⟨te_dp_room, pk_dp, tx_dp_room oG, rfl⟩
def tb_dp_book : gk_T := [(0, .iload_n 1, 1, 0), (1, .iconst 0, 2, 0), (2, .aload_n 0, 3, 0), (3, .getfield 12, 6, 0), (6, .getfield 230, 9, 0), (9, .iconst 1, 10, 0), (10, .isub, 11, 0), (11, .invokestatic 104, 14, 0), (14, .ifCond .eq 12, 17, 26), (17, .iload_n 2, 18, 0), (18, .iconst 0, 19, 0), (19, .iconst 3, 20, 0), (20, .invokestatic 104, 23, 0), (23, .ifCond .ne 5, 26, 28), (26, .iconst (-1), 27, 0), (27, .ireturn, 28, 0), (28, .aload_n 0, 29, 0), (29, .getfield 23, 32, 0), (32, .iload_n 1, 33, 0), (33, .iconst 4, 34, 0), (34, .imul, 35, 0), (35, .iload_n 2, 36, 0), (36, .iadd, 37, 0), (37, .iaload, 38, 0), (38, .ireturn, 39, 0)]
def sw_dp_book : List (Nat × List (Int32 × Nat) × Nat) := []
set_option maxRecDepth 100000 in
theorem te_dp_book : ∀ q ∈ tb_dp_book, gk_eok (gk_M 138).2.1 q = true := by decide +kernel
set_option maxRecDepth 100000 in
theorem tx_dp_book (oG : List (Nat × gk_G)) : ∀ q ∈ tb_dp_book, gk_xok "DryPlaces" pl_dp (1, sw_dp_book, oG) q := by
  have h : tb_dp_book.all (fun q => gk_xokb "DryPlaces" pl_dp sw_dp_book q) = true := by decide +kernel
  exact fun q hq => gk_xok_of (List.all_eq_true.mp h q hq)
theorem ok_dp_book (oG : List (Nat × gk_G)) : gk_ok gk_M 138 tb_dp_book pl_dp (1, sw_dp_book, oG) := ⟨te_dp_book, pk_dp, tx_dp_book oG, rfl⟩
def tb_dp_goes : gk_T := [(0, .iload_n 1, 1, 0), (1, .iconst 1, 2, 0), (2, .bipush 60, 4, 0), (4, .invokestatic 104, 7, 0), (7, .ifCond .eq 12, 10, 19), (10, .iload_n 2, 11, 0), (11, .iconst 0, 12, 0), (12, .iconst 2, 13, 0), (13, .invokestatic 104, 16, 0), (16, .ifCond .ne 5, 19, 21), (19, .iconst (-1), 20, 0), (20, .ireturn, 21, 0), (21, .aload_n 0, 22, 0), (22, .getfield 72, 25, 0), (25, .aload_n 0, 26, 0), (26, .getfield 12, 29, 0), (29, .invokevirtual 233, 32, 0), (32, .iconst 0, 33, 0), (33, .istore_n 3, 34, 0), (34, .iload_n 3, 35, 0), (35, .iload_n 1, 36, 0), (36, .if_icmp .ge 17, 39, 53), (39, .aload_n 0, 40, 0), (40, .getfield 75, 43, 0), (43, .invokevirtual 147, 46, 0), (46, .pop, 47, 0), (47, .iinc 3 1, 50, 0), (50, .goto (-16), 53, 34), (53, .iload_n 2, 54, 0), (54, .lookupswitch 42 #[(0, 26), (1, 34)], 80, 0), (80, .aload_n 0, 81, 0), (81, .getfield 72, 84, 0), (84, .getfield 130, 87, 0), (87, .ireturn, 88, 0), (88, .aload_n 0, 89, 0), (89, .getfield 72, 92, 0), (92, .getfield 236, 95, 0), (95, .ireturn, 96, 0), (96, .aload_n 0, 97, 0), (97, .getfield 72, 100, 0), (100, .invokevirtual 239, 103, 0), (103, .ireturn, 104, 0)]
def sw_dp_goes : List (Nat × List (Int32 × Nat) × Nat) := [(54, [(0, 80), (1, 88)], 96)]
set_option maxRecDepth 100000 in
theorem te_dp_goes : ∀ q ∈ tb_dp_goes, gk_eok (gk_M 139).2.1 q = true := by decide +kernel
set_option maxRecDepth 100000 in
theorem tx_dp_goes (oG : List (Nat × gk_G)) : ∀ q ∈ tb_dp_goes, gk_xok "DryPlaces" pl_dp (1, sw_dp_goes, oG) q := by
  have h : tb_dp_goes.all (fun q => gk_xokb "DryPlaces" pl_dp sw_dp_goes q) = true := by decide +kernel
  exact fun q hq => gk_xok_of (List.all_eq_true.mp h q hq)
theorem ok_dp_goes (oG : List (Nat × gk_G)) : gk_ok gk_M 139 tb_dp_goes pl_dp (1, sw_dp_goes, oG) := ⟨te_dp_goes, pk_dp, tx_dp_goes oG, rfl⟩
def tb_dp_shape : gk_T := [(0, .aload_n 0, 1, 0), (1, .getfield 12, 4, 0), (4, .iload_n 1, 5, 0), (5, .invokevirtual 115, 8, 0), (8, .ifCond .ne 5, 11, 13), (11, .iconst (-1), 12, 0), (12, .ireturn, 13, 0), (13, .aload_n 0, 14, 0), (14, .getfield 12, 17, 0), (17, .getfield 119, 20, 0), (20, .iload_n 1, 21, 0), (21, .laload, 22, 0), (22, .lstore_n 3, 23, 0), (23, .iload_n 2, 24, 0), (24, .tableswitch 61 0 4 #[36, 41, 46, 51, 56], 60, 0), (60, .lload_n 3, 61, 0), (61, .invokestatic 242, 64, 0), (64, .ireturn, 65, 0), (65, .lload_n 3, 66, 0), (66, .invokestatic 248, 69, 0), (69, .ireturn, 70, 0), (70, .lload_n 3, 71, 0), (71, .invokestatic 251, 74, 0), (74, .ireturn, 75, 0), (75, .lload_n 3, 76, 0), (76, .invokestatic 254, 79, 0), (79, .ireturn, 80, 0), (80, .lload_n 3, 81, 0), (81, .invokestatic 257, 84, 0), (84, .ireturn, 85, 0), (85, .iconst (-1), 86, 0), (86, .ireturn, 87, 0)]
def sw_dp_shape : List (Nat × List (Int32 × Nat) × Nat) := [(24, [(0, 60), (1, 65), (2, 70), (3, 75), (4, 80)], 85)]
set_option maxRecDepth 100000 in
theorem te_dp_shape : ∀ q ∈ tb_dp_shape, gk_eok (gk_M 140).2.1 q = true := by decide +kernel
set_option maxRecDepth 100000 in
theorem tx_dp_shape (oG : List (Nat × gk_G)) : ∀ q ∈ tb_dp_shape, gk_xok "DryPlaces" pl_dp (1, sw_dp_shape, oG) q := by
  have h : tb_dp_shape.all (fun q => gk_xokb "DryPlaces" pl_dp sw_dp_shape q) = true := by decide +kernel
  exact fun q hq => gk_xok_of (List.all_eq_true.mp h q hq)
theorem ok_dp_shape (oG : List (Nat × gk_G)) : gk_ok gk_M 140 tb_dp_shape pl_dp (1, sw_dp_shape, oG) := ⟨te_dp_shape, pk_dp, tx_dp_shape oG, rfl⟩
def tb_dp_turned : gk_T := [(0, .aload_n 0, 1, 0), (1, .getfield 12, 4, 0), (4, .iload_n 1, 5, 0), (5, .invokevirtual 115, 8, 0), (8, .ifCond .eq 42, 11, 50), (11, .aload_n 0, 12, 0), (12, .getfield 12, 15, 0), (15, .iload_n 2, 16, 0), (16, .invokevirtual 115, 19, 0), (19, .ifCond .eq 31, 22, 50), (22, .aload_n 0, 23, 0), (23, .getfield 12, 26, 0), (26, .getfield 119, 29, 0), (29, .iload_n 1, 30, 0), (30, .laload, 31, 0), (31, .lconst 0, 32, 0), (32, .lcmp, 33, 0), (33, .ifCond .eq 17, 36, 50), (36, .aload_n 0, 37, 0), (37, .getfield 12, 40, 0), (40, .getfield 119, 43, 0), (43, .iload_n 2, 44, 0), (44, .laload, 45, 0), (45, .lconst 0, 46, 0), (46, .lcmp, 47, 0), (47, .ifCond .ne 5, 50, 52), (50, .iconst (-1), 51, 0), (51, .ireturn, 52, 0), (52, .aload_n 0, 53, 0), (53, .getfield 12, 56, 0), (56, .getfield 119, 59, 0), (59, .iload_n 2, 60, 0), (60, .laload, 61, 0), (61, .invokestatic 260, 64, 0), (64, .lstore_n 3, 65, 0), (65, .iconst 0, 66, 0), (66, .istore 5, 68, 0), (68, .iload 5, 70, 0), (70, .bipush 8, 72, 0), (72, .if_icmp .ge 34, 75, 106), (75, .aload_n 0, 76, 0), (76, .getfield 12, 79, 0), (79, .getfield 119, 82, 0), (82, .iload_n 1, 83, 0), (83, .laload, 84, 0), (84, .iload 5, 86, 0), (86, .invokestatic 264, 89, 0), (89, .invokestatic 260, 92, 0), (92, .lload_n 3, 93, 0), (93, .lcmp, 94, 0), (94, .ifCond .ne 6, 97, 100), (97, .iload 5, 99, 0), (99, .ireturn, 100, 0), (100, .iinc 5 1, 103, 0), (103, .goto (-35), 106, 68), (106, .iconst (-1), 107, 0), (107, .ireturn, 108, 0)]
def sw_dp_turned : List (Nat × List (Int32 × Nat) × Nat) := []
set_option maxRecDepth 100000 in
theorem te_dp_turned : ∀ q ∈ tb_dp_turned, gk_eok (gk_M 141).2.1 q = true := by decide +kernel
set_option maxRecDepth 100000 in
theorem tx_dp_turned (oG : List (Nat × gk_G)) : ∀ q ∈ tb_dp_turned, gk_xok "DryPlaces" pl_dp (1, sw_dp_turned, oG) q := by
  have h : tb_dp_turned.all (fun q => gk_xokb "DryPlaces" pl_dp sw_dp_turned q) = true := by decide +kernel
  exact fun q hq => gk_xok_of (List.all_eq_true.mp h q hq)
theorem ok_dp_turned (oG : List (Nat × gk_G)) : gk_ok gk_M 141 tb_dp_turned pl_dp (1, sw_dp_turned, oG) := ⟨te_dp_turned, pk_dp, tx_dp_turned oG, rfl⟩
def tb_dp_square : gk_T := [(0, .aload_n 0, 1, 0), (1, .getfield 12, 4, 0), (4, .iload_n 1, 5, 0), (5, .invokevirtual 115, 8, 0), (8, .ifCond .ne 5, 11, 13), (11, .iconst (-1), 12, 0), (12, .ireturn, 13, 0), (13, .aload_n 0, 14, 0), (14, .getfield 12, 17, 0), (17, .getfield 119, 20, 0), (20, .iload_n 1, 21, 0), (21, .laload, 22, 0), (22, .lstore_n 3, 23, 0), (23, .lload_n 3, 24, 0), (24, .invokestatic 268, 27, 0), (27, .istore 5, 29, 0), (29, .lload_n 3, 30, 0), (30, .invokestatic 257, 33, 0), (33, .istore 6, 35, 0), (35, .iload_n 2, 36, 0), (36, .tableswitch 96 0 4 #[36, 39, 49, 70, 84], 72, 0), (72, .iload 5, 74, 0), (74, .ireturn, 75, 0), (75, .lload_n 3, 76, 0), (76, .iload 5, 78, 0), (78, .invokestatic 271, 81, 0), (81, .invokestatic 274, 84, 0), (84, .ireturn, 85, 0), (85, .lload_n 3, 86, 0), (86, .lload_n 3, 87, 0), (87, .iload 5, 89, 0), (89, .invokestatic 271, 92, 0), (92, .iload 5, 94, 0), (94, .invokestatic 277, 97, 0), (97, .ldc2_w 280, 100, 0), (100, .lxor, 101, 0), (101, .land, 102, 0), (102, .invokestatic 242, 105, 0), (105, .ireturn, 106, 0), (106, .iload 6, 108, 0), (108, .ifCond .ne 7, 111, 115), (111, .iconst (-1), 112, 0), (112, .goto 7, 115, 119), (115, .iload 6, 117, 0), (117, .iconst 1, 118, 0), (118, .isub, 119, 0), (119, .ireturn, 120, 0), (120, .lload_n 3, 121, 0), (121, .iload 6, 123, 0), (123, .iconst 1, 124, 0), (124, .isub, 125, 0), (125, .invokestatic 282, 128, 0), (128, .invokestatic 274, 131, 0), (131, .ireturn, 132, 0), (132, .iconst (-1), 133, 0), (133, .ireturn, 134, 0)]
def sw_dp_square : List (Nat × List (Int32 × Nat) × Nat) := [(36, [(0, 72), (1, 75), (2, 85), (3, 106), (4, 120)], 132)]
set_option maxRecDepth 100000 in
theorem te_dp_square : ∀ q ∈ tb_dp_square, gk_eok (gk_M 142).2.1 q = true := by decide +kernel
set_option maxRecDepth 100000 in
theorem tx_dp_square (oG : List (Nat × gk_G)) : ∀ q ∈ tb_dp_square, gk_xok "DryPlaces" pl_dp (1, sw_dp_square, oG) q := by
  have h : tb_dp_square.all (fun q => gk_xokb "DryPlaces" pl_dp sw_dp_square q) = true := by decide +kernel
  exact fun q hq => gk_xok_of (List.all_eq_true.mp h q hq)
theorem ok_dp_square (oG : List (Nat × gk_G)) : gk_ok gk_M 142 tb_dp_square pl_dp (1, sw_dp_square, oG) := ⟨te_dp_square, pk_dp, tx_dp_square oG, rfl⟩
def tb_dp_fit : gk_T := [(0, .aload_n 0, 1, 0), (1, .getfield 12, 4, 0), (4, .iload_n 1, 5, 0), (5, .invokevirtual 115, 8, 0), (8, .ifCond .eq 23, 11, 31), (11, .aload_n 0, 12, 0), (12, .getfield 12, 15, 0), (15, .iload_n 2, 16, 0), (16, .invokevirtual 115, 19, 0), (19, .ifCond .eq 12, 22, 31), (22, .iload_n 3, 23, 0), (23, .iconst 0, 24, 0), (24, .iconst 1, 25, 0), (25, .invokestatic 104, 28, 0), (28, .ifCond .ne 5, 31, 33), (31, .iconst (-1), 32, 0), (32, .ireturn, 33, 0), (33, .aload_n 0, 34, 0), (34, .getfield 12, 37, 0), (37, .getfield 119, 40, 0), (40, .iload_n 1, 41, 0), (41, .laload, 42, 0), (42, .aload_n 0, 43, 0), (43, .getfield 12, 46, 0), (46, .getfield 119, 49, 0), (49, .iload_n 2, 50, 0), (50, .laload, 51, 0), (51, .invokestatic 285, 54, 0), (54, .istore 4, 56, 0), (56, .iload 4, 58, 0), (58, .iconst (-1), 59, 0), (59, .if_icmp .eq 8, 62, 67), (62, .iload_n 3, 63, 0), (63, .iconst 1, 64, 0), (64, .if_icmp .ne 6, 67, 70), (67, .iload 4, 69, 0), (69, .ireturn, 70, 0), (70, .aload_n 0, 71, 0), (71, .getfield 12, 74, 0), (74, .getfield 119, 77, 0), (77, .iload_n 1, 78, 0), (78, .laload, 79, 0), (79, .aload_n 0, 80, 0), (80, .getfield 12, 83, 0), (83, .getfield 119, 86, 0), (86, .iload_n 2, 87, 0), (87, .laload, 88, 0), (88, .iload 4, 90, 0), (90, .invokestatic 289, 93, 0), (93, .ireturn, 94, 0)]
def sw_dp_fit : List (Nat × List (Int32 × Nat) × Nat) := []
set_option maxRecDepth 100000 in
theorem te_dp_fit : ∀ q ∈ tb_dp_fit, gk_eok (gk_M 143).2.1 q = true := by decide +kernel
set_option maxRecDepth 100000 in
theorem tx_dp_fit (oG : List (Nat × gk_G)) : ∀ q ∈ tb_dp_fit, gk_xok "DryPlaces" pl_dp (1, sw_dp_fit, oG) q := by
  have h : tb_dp_fit.all (fun q => gk_xokb "DryPlaces" pl_dp sw_dp_fit q) = true := by decide +kernel
  exact fun q hq => gk_xok_of (List.all_eq_true.mp h q hq)
theorem ok_dp_fit (oG : List (Nat × gk_G)) : gk_ok gk_M 143 tb_dp_fit pl_dp (1, sw_dp_fit, oG) := ⟨te_dp_fit, pk_dp, tx_dp_fit oG, rfl⟩
def tb_dp_walk : gk_T := [(0, .aload_n 0, 1, 0), (1, .getfield 12, 4, 0), (4, .iload_n 1, 5, 0), (5, .invokevirtual 115, 8, 0), (8, .ifCond .eq 17, 11, 25), (11, .iload_n 2, 12, 0), (12, .invokestatic 207, 15, 0), (15, .ifCond .eq 10, 18, 25), (18, .iload_n 3, 19, 0), (19, .invokestatic 207, 22, 0), (22, .ifCond .ne 5, 25, 27), (25, .iconst (-1), 26, 0), (26, .ireturn, 27, 0), (27, .aload_n 0, 28, 0), (28, .getfield 12, 31, 0), (31, .getfield 119, 34, 0), (34, .iload_n 1, 35, 0), (35, .laload, 36, 0), (36, .lstore 5, 38, 0), (38, .lload 5, 40, 0), (40, .iload_n 2, 41, 0), (41, .invokestatic 210, 44, 0), (44, .ifCond .eq 12, 47, 56), (47, .lload 5, 49, 0), (49, .iload_n 3, 50, 0), (50, .invokestatic 210, 53, 0), (53, .ifCond .ne 5, 56, 58), (56, .iconst (-1), 57, 0), (57, .ireturn, 58, 0), (58, .iload 4, 60, 0), (60, .lookupswitch 44 #[(0, 28), (1, 36)], 88, 0), (88, .lload 5, 90, 0), (90, .iload_n 2, 91, 0), (91, .iload_n 3, 92, 0), (92, .invokestatic 293, 95, 0), (95, .ireturn, 96, 0), (96, .lload 5, 98, 0), (98, .iload_n 2, 99, 0), (99, .iload_n 3, 100, 0), (100, .invokestatic 297, 103, 0), (103, .ireturn, 104, 0), (104, .iconst (-1), 105, 0), (105, .ireturn, 106, 0)]
def sw_dp_walk : List (Nat × List (Int32 × Nat) × Nat) := [(60, [(0, 88), (1, 96)], 104)]
set_option maxRecDepth 100000 in
theorem te_dp_walk : ∀ q ∈ tb_dp_walk, gk_eok (gk_M 144).2.1 q = true := by decide +kernel
set_option maxRecDepth 100000 in
theorem tx_dp_walk (oG : List (Nat × gk_G)) : ∀ q ∈ tb_dp_walk, gk_xok "DryPlaces" pl_dp (1, sw_dp_walk, oG) q := by
  have h : tb_dp_walk.all (fun q => gk_xokb "DryPlaces" pl_dp sw_dp_walk q) = true := by decide +kernel
  exact fun q hq => gk_xok_of (List.all_eq_true.mp h q hq)
theorem ok_dp_walk (oG : List (Nat × gk_G)) : gk_ok gk_M 144 tb_dp_walk pl_dp (1, sw_dp_walk, oG) := ⟨te_dp_walk, pk_dp, tx_dp_walk oG, rfl⟩
def tb_dp_sums : gk_T := [(0, .aload_n 0, 1, 0), (1, .getfield 12, 4, 0), (4, .iload_n 1, 5, 0), (5, .invokevirtual 115, 8, 0), (8, .ifCond .ne 5, 11, 13), (11, .iconst (-1), 12, 0), (12, .ireturn, 13, 0), (13, .aload_n 0, 14, 0), (14, .getfield 12, 17, 0), (17, .getfield 119, 20, 0), (20, .iload_n 1, 21, 0), (21, .laload, 22, 0), (22, .lstore_n 3, 23, 0), (23, .iload_n 2, 24, 0), (24, .iconst 0, 25, 0), (25, .bipush 15, 27, 0), (27, .invokestatic 104, 30, 0), (30, .ifCond .eq 9, 33, 39), (33, .lload_n 3, 34, 0), (34, .iload_n 2, 35, 0), (35, .invokestatic 300, 38, 0), (38, .ireturn, 39, 0), (39, .iload_n 2, 40, 0), (40, .bipush 16, 42, 0), (42, .if_icmp .ne 8, 45, 50), (45, .lload_n 3, 46, 0), (46, .invokestatic 303, 49, 0), (49, .ireturn, 50, 0), (50, .iload_n 2, 51, 0), (51, .bipush 20, 53, 0), (53, .if_icmp .lt 17, 56, 70), (56, .aload_n 0, 57, 0), (57, .getfield 12, 60, 0), (60, .iload_n 2, 61, 0), (61, .bipush 20, 63, 0), (63, .isub, 64, 0), (64, .invokevirtual 115, 67, 0), (67, .ifCond .ne 5, 70, 72), (70, .iconst (-1), 71, 0), (71, .ireturn, 72, 0), (72, .lload_n 3, 73, 0), (73, .aload_n 0, 74, 0), (74, .getfield 12, 77, 0), (77, .getfield 119, 80, 0), (80, .iload_n 2, 81, 0), (81, .bipush 20, 83, 0), (83, .isub, 84, 0), (84, .laload, 85, 0), (85, .invokestatic 306, 88, 0), (88, .ifCond .eq 7, 91, 95), (91, .iconst 1, 92, 0), (92, .goto 4, 95, 96), (95, .iconst 0, 96, 0), (96, .ireturn, 97, 0)]
def sw_dp_sums : List (Nat × List (Int32 × Nat) × Nat) := []
set_option maxRecDepth 100000 in
theorem te_dp_sums : ∀ q ∈ tb_dp_sums, gk_eok (gk_M 145).2.1 q = true := by decide +kernel
set_option maxRecDepth 100000 in
theorem tx_dp_sums (oG : List (Nat × gk_G)) : ∀ q ∈ tb_dp_sums, gk_xok "DryPlaces" pl_dp (1, sw_dp_sums, oG) q := by
  have h : tb_dp_sums.all (fun q => gk_xokb "DryPlaces" pl_dp sw_dp_sums q) = true := by decide +kernel
  exact fun q hq => gk_xok_of (List.all_eq_true.mp h q hq)
theorem ok_dp_sums (oG : List (Nat × gk_G)) : gk_ok gk_M 145 tb_dp_sums pl_dp (1, sw_dp_sums, oG) := ⟨te_dp_sums, pk_dp, tx_dp_sums oG, rfl⟩
def tb_dp_buys : gk_T := [(0, .iload_n 1, 1, 0), (1, .iconst 1, 2, 0), (2, .sipush 9999, 5, 0), (5, .invokestatic 104, 8, 0), (8, .ifCond .eq 12, 11, 20), (11, .iload_n 2, 12, 0), (12, .iconst 0, 13, 0), (13, .iconst 1, 14, 0), (14, .invokestatic 104, 17, 0), (17, .ifCond .ne 5, 20, 22), (20, .iconst (-1), 21, 0), (21, .ireturn, 22, 0), (22, .iconst 0, 23, 0), (23, .istore_n 3, 24, 0), (24, .iload_n 3, 25, 0), (25, .aload_n 0, 26, 0), (26, .getfield 12, 29, 0), (29, .getfield 108, 32, 0), (32, .if_icmp .ge 27, 35, 59), (35, .aload_n 0, 36, 0), (36, .getfield 85, 39, 0), (39, .iload_n 3, 40, 0), (40, .aload_n 0, 41, 0), (41, .getfield 59, 44, 0), (44, .aload_n 0, 45, 0), (45, .getfield 12, 48, 0), (48, .iload_n 3, 49, 0), (49, .invokevirtual 200, 52, 0), (52, .iastore, 53, 0), (53, .iinc 3 1, 56, 0), (56, .goto (-32), 59, 24), (59, .iconst 0, 60, 0), (60, .istore_n 3, 61, 0), (61, .iconst 0, 62, 0), (62, .istore 4, 64, 0), (64, .iconst 0, 65, 0), (65, .istore 5, 67, 0), (67, .iload 5, 69, 0), (69, .iconst 1, 70, 0), (70, .aload_n 0, 71, 0), (71, .getfield 12, 74, 0), (74, .getfield 108, 77, 0), (77, .ishl, 78, 0), (78, .if_icmp .ge 59, 81, 137), (81, .iload 5, 83, 0), (83, .aload_n 0, 84, 0), (84, .getfield 12, 87, 0), (87, .getfield 310, 90, 0), (90, .iand, 91, 0), (91, .ifCond .ne 40, 94, 131), (94, .aload_n 0, 95, 0), (95, .iload 5, 97, 0), (97, .invokevirtual 313, 100, 0), (100, .iload_n 1, 101, 0), (101, .if_icmp .gt 30, 104, 131), (104, .aload_n 0, 105, 0), (105, .getfield 12, 108, 0), (108, .iload 5, 110, 0), (110, .invokevirtual 316, 113, 0), (113, .iload_n 3, 114, 0), (114, .if_icmp .le 17, 117, 131), (117, .aload_n 0, 118, 0), (118, .getfield 12, 121, 0), (121, .iload 5, 123, 0), (123, .invokevirtual 316, 126, 0), (126, .istore_n 3, 127, 0), (127, .iload 5, 129, 0), (129, .istore 4, 131, 0), (131, .iinc 5 1, 134, 0), (134, .goto (-67), 137, 67), (137, .iload_n 2, 138, 0), (138, .ifCond .ne 7, 141, 145), (141, .iload_n 3, 142, 0), (142, .goto 5, 145, 147), (145, .iload 4, 147, 0), (147, .ireturn, 148, 0)]
def sw_dp_buys : List (Nat × List (Int32 × Nat) × Nat) := []
set_option maxRecDepth 100000 in
theorem te_dp_buys : ∀ q ∈ tb_dp_buys, gk_eok (gk_M 146).2.1 q = true := by decide +kernel
set_option maxRecDepth 100000 in
theorem tx_dp_buys (oG : List (Nat × gk_G)) : ∀ q ∈ tb_dp_buys, gk_xok "DryPlaces" pl_dp (1, sw_dp_buys, oG) q := by
  have h : tb_dp_buys.all (fun q => gk_xokb "DryPlaces" pl_dp sw_dp_buys q) = true := by decide +kernel
  exact fun q hq => gk_xok_of (List.all_eq_true.mp h q hq)
theorem ok_dp_buys (oG : List (Nat × gk_G)) : gk_ok gk_M 146 tb_dp_buys pl_dp (1, sw_dp_buys, oG) := ⟨te_dp_buys, pk_dp, tx_dp_buys oG, rfl⟩
def tb_dp_tour : gk_T := [(0, .iload_n 1, 1, 0), (1, .invokestatic 221, 4, 0), (4, .ifCond .eq 12, 7, 16), (7, .iload_n 2, 8, 0), (8, .iconst 0, 9, 0), (9, .iconst 1, 10, 0), (10, .invokestatic 104, 13, 0), (13, .ifCond .ne 5, 16, 18), (16, .iconst (-1), 17, 0), (17, .ireturn, 18, 0), (18, .aload_n 0, 19, 0), (19, .getfield 81, 22, 0), (22, .aload_n 0, 23, 0), (23, .getfield 19, 26, 0), (26, .getfield 227, 29, 0), (29, .iload_n 1, 30, 0), (30, .invokevirtual 319, 33, 0), (33, .istore_n 3, 34, 0), (34, .iload_n 3, 35, 0), (35, .iconst (-1), 36, 0), (36, .if_icmp .eq 8, 39, 44), (39, .iload_n 2, 40, 0), (40, .iconst 1, 41, 0), (41, .if_icmp .ne 5, 44, 46), (44, .iload_n 3, 45, 0), (45, .ireturn, 46, 0), (46, .aload_n 0, 47, 0), (47, .getfield 81, 50, 0), (50, .iload_n 3, 51, 0), (51, .invokevirtual 323, 54, 0), (54, .ireturn, 55, 0)]
def sw_dp_tour : List (Nat × List (Int32 × Nat) × Nat) := []
set_option maxRecDepth 100000 in
theorem te_dp_tour : ∀ q ∈ tb_dp_tour, gk_eok (gk_M 147).2.1 q = true := by decide +kernel
set_option maxRecDepth 100000 in
theorem tx_dp_tour (oG : List (Nat × gk_G)) : ∀ q ∈ tb_dp_tour, gk_xok "DryPlaces" pl_dp (1, sw_dp_tour, oG) q := by
  have h : tb_dp_tour.all (fun q => gk_xokb "DryPlaces" pl_dp sw_dp_tour q) = true := by decide +kernel
  exact fun q hq => gk_xok_of (List.all_eq_true.mp h q hq)
theorem ok_dp_tour (oG : List (Nat × gk_G)) : gk_ok gk_M 147 tb_dp_tour pl_dp (1, sw_dp_tour, oG) := ⟨te_dp_tour, pk_dp, tx_dp_tour oG, rfl⟩
def tb_dp_vouched : gk_T := [(0, .aload_n 0, 1, 0), (1, .getfield 12, 4, 0), (4, .iload_n 1, 5, 0), (5, .invokevirtual 115, 8, 0), (8, .ifCond .ne 5, 11, 13), (11, .iconst (-1), 12, 0), (12, .ireturn, 13, 0), (13, .aload_n 0, 14, 0), (14, .getfield 19, 17, 0), (17, .getfield 326, 20, 0), (20, .iload_n 1, 21, 0), (21, .iaload, 22, 0), (22, .istore_n 2, 23, 0), (23, .iconst 0, 24, 0), (24, .istore_n 3, 25, 0), (25, .iload_n 3, 26, 0), (26, .bipush 10, 28, 0), (28, .if_icmp .ge 17, 31, 45), (31, .iload_n 2, 32, 0), (32, .aload_n 0, 33, 0), (33, .iload_n 2, 34, 0), (34, .invokevirtual 329, 37, 0), (37, .ior, 38, 0), (38, .istore_n 2, 39, 0), (39, .iinc 3 1, 42, 0), (42, .goto (-17), 45, 25), (45, .iload_n 2, 46, 0), (46, .ireturn, 47, 0)]
def sw_dp_vouched : List (Nat × List (Int32 × Nat) × Nat) := []
set_option maxRecDepth 100000 in
theorem te_dp_vouched : ∀ q ∈ tb_dp_vouched, gk_eok (gk_M 148).2.1 q = true := by decide +kernel
set_option maxRecDepth 100000 in
theorem tx_dp_vouched (oG : List (Nat × gk_G)) : ∀ q ∈ tb_dp_vouched, gk_xok "DryPlaces" pl_dp (1, sw_dp_vouched, oG) q := by
  have h : tb_dp_vouched.all (fun q => gk_xokb "DryPlaces" pl_dp sw_dp_vouched q) = true := by decide +kernel
  exact fun q hq => gk_xok_of (List.all_eq_true.mp h q hq)
theorem ok_dp_vouched (oG : List (Nat × gk_G)) : gk_ok gk_M 148 tb_dp_vouched pl_dp (1, sw_dp_vouched, oG) := ⟨te_dp_vouched, pk_dp, tx_dp_vouched oG, rfl⟩
def tb_dp_lie : gk_T := [(0, .aload_n 0, 1, 0), (1, .getfield 12, 4, 0), (4, .iload_n 1, 5, 0), (5, .invokevirtual 115, 8, 0), (8, .ifCond .eq 17, 11, 25), (11, .iload_n 2, 12, 0), (12, .invokestatic 207, 15, 0), (15, .ifCond .eq 10, 18, 25), (18, .iload_n 3, 19, 0), (19, .invokestatic 207, 22, 0), (22, .ifCond .ne 5, 25, 27), (25, .iconst (-1), 26, 0), (26, .ireturn, 27, 0), (27, .aload_n 0, 28, 0), (28, .getfield 12, 31, 0), (31, .getfield 119, 34, 0), (34, .iload_n 1, 35, 0), (35, .laload, 36, 0), (36, .iload_n 2, 37, 0), (37, .iload_n 3, 38, 0), (38, .invokestatic 332, 41, 0), (41, .ifCond .eq 7, 44, 48), (44, .iconst 1, 45, 0), (45, .goto 4, 48, 49), (48, .iconst 0, 49, 0), (49, .ireturn, 50, 0)]
def sw_dp_lie : List (Nat × List (Int32 × Nat) × Nat) := []
set_option maxRecDepth 100000 in
theorem te_dp_lie : ∀ q ∈ tb_dp_lie, gk_eok (gk_M 149).2.1 q = true := by decide +kernel
set_option maxRecDepth 100000 in
theorem tx_dp_lie (oG : List (Nat × gk_G)) : ∀ q ∈ tb_dp_lie, gk_xok "DryPlaces" pl_dp (1, sw_dp_lie, oG) q := by
  have h : tb_dp_lie.all (fun q => gk_xokb "DryPlaces" pl_dp sw_dp_lie q) = true := by decide +kernel
  exact fun q hq => gk_xok_of (List.all_eq_true.mp h q hq)
theorem ok_dp_lie (oG : List (Nat × gk_G)) : gk_ok gk_M 149 tb_dp_lie pl_dp (1, sw_dp_lie, oG) := ⟨te_dp_lie, pk_dp, tx_dp_lie oG, rfl⟩
def tb_dp_feet : gk_T := [(0, .aload_n 0, 1, 0), (1, .getfield 12, 4, 0), (4, .iload_n 1, 5, 0), (5, .invokevirtual 115, 8, 0), (8, .ifCond .ne 5, 11, 13), (11, .iconst (-1), 12, 0), (12, .ireturn, 13, 0), (13, .aload_n 0, 14, 0), (14, .getfield 12, 17, 0), (17, .getfield 119, 20, 0), (20, .iload_n 1, 21, 0), (21, .laload, 22, 0), (22, .invokestatic 336, 25, 0), (25, .ireturn, 26, 0)]
def sw_dp_feet : List (Nat × List (Int32 × Nat) × Nat) := []
set_option maxRecDepth 100000 in
theorem te_dp_feet : ∀ q ∈ tb_dp_feet, gk_eok (gk_M 150).2.1 q = true := by decide +kernel
set_option maxRecDepth 100000 in
theorem tx_dp_feet (oG : List (Nat × gk_G)) : ∀ q ∈ tb_dp_feet, gk_xok "DryPlaces" pl_dp (1, sw_dp_feet, oG) q := by
  have h : tb_dp_feet.all (fun q => gk_xokb "DryPlaces" pl_dp sw_dp_feet q) = true := by decide +kernel
  exact fun q hq => gk_xok_of (List.all_eq_true.mp h q hq)
theorem ok_dp_feet (oG : List (Nat × gk_G)) : gk_ok gk_M 150 tb_dp_feet pl_dp (1, sw_dp_feet, oG) := ⟨te_dp_feet, pk_dp, tx_dp_feet oG, rfl⟩
def tb_dp_game : gk_T := [(0, .iconst 0, 1, 0), (1, .istore_n 2, 2, 0), (2, .iconst 0, 3, 0), (3, .istore_n 3, 4, 0), (4, .iload_n 3, 5, 0), (5, .aload_n 0, 6, 0), (6, .getfield 12, 9, 0), (9, .getfield 108, 12, 0), (12, .if_icmp .ge 20, 15, 32), (15, .iload_n 2, 16, 0), (16, .aload_n 0, 17, 0), (17, .iload_n 3, 18, 0), (18, .invokevirtual 339, 21, 0), (21, .bipush 6, 23, 0), (23, .irem, 24, 0), (24, .ixor, 25, 0), (25, .istore_n 2, 26, 0), (26, .iinc 3 1, 29, 0), (29, .goto (-25), 32, 4), (32, .iconst 0, 33, 0), (33, .istore_n 3, 34, 0), (34, .iload_n 3, 35, 0), (35, .aload_n 0, 36, 0), (36, .getfield 12, 39, 0), (39, .getfield 108, 42, 0), (42, .if_icmp .ge 46, 45, 88), (45, .aload_n 0, 46, 0), (46, .iload_n 3, 47, 0), (47, .invokevirtual 339, 50, 0), (50, .iload_n 2, 51, 0), (51, .invokestatic 342, 54, 0), (54, .istore 4, 56, 0), (56, .iload 4, 58, 0), (58, .iconst (-1), 59, 0), (59, .if_icmp .eq 23, 62, 82), (62, .iload_n 1, 63, 0), (63, .ifCond .ne 7, 66, 70), (66, .iload_n 3, 67, 0), (67, .goto 14, 70, 81), (70, .iload_n 1, 71, 0), (71, .iconst 1, 72, 0), (72, .if_icmp .ne 8, 75, 80), (75, .iload 4, 77, 0), (77, .goto 4, 80, 81), (80, .iconst (-1), 81, 0), (81, .ireturn, 82, 0), (82, .iinc 3 1, 85, 0), (85, .goto (-51), 88, 34), (88, .iconst (-1), 89, 0), (89, .ireturn, 90, 0)]
def sw_dp_game : List (Nat × List (Int32 × Nat) × Nat) := []
set_option maxRecDepth 100000 in
theorem te_dp_game : ∀ q ∈ tb_dp_game, gk_eok (gk_M 151).2.1 q = true := by decide +kernel
set_option maxRecDepth 100000 in
theorem tx_dp_game (oG : List (Nat × gk_G)) : ∀ q ∈ tb_dp_game, gk_xok "DryPlaces" pl_dp (1, sw_dp_game, oG) q := by
  have h : tb_dp_game.all (fun q => gk_xokb "DryPlaces" pl_dp sw_dp_game q) = true := by decide +kernel
  exact fun q hq => gk_xok_of (List.all_eq_true.mp h q hq)
theorem ok_dp_game (oG : List (Nat × gk_G)) : gk_ok gk_M 151 tb_dp_game pl_dp (1, sw_dp_game, oG) := ⟨te_dp_game, pk_dp, tx_dp_game oG, rfl⟩
def tb_dp_undo : gk_T := [(0, .aload_n 0, 1, 0), (1, .getfield 30, 4, 0), (4, .aload_n 0, 5, 0), (5, .getfield 12, 8, 0), (8, .invokevirtual 346, 11, 0), (11, .ireturn, 12, 0)]
def sw_dp_undo : List (Nat × List (Int32 × Nat) × Nat) := []
set_option maxRecDepth 100000 in
theorem te_dp_undo : ∀ q ∈ tb_dp_undo, gk_eok (gk_M 152).2.1 q = true := by decide +kernel
set_option maxRecDepth 100000 in
theorem tx_dp_undo (oG : List (Nat × gk_G)) : ∀ q ∈ tb_dp_undo, gk_xok "DryPlaces" pl_dp (3, sw_dp_undo, oG) q := by
  have h : tb_dp_undo.all (fun q => gk_xokb "DryPlaces" pl_dp sw_dp_undo q) = true := by decide +kernel
  exact fun q hq => gk_xok_of (List.all_eq_true.mp h q hq)
theorem ok_dp_undo (oG : List (Nat × gk_G)) : gk_ok gk_M 152 tb_dp_undo pl_dp (3, sw_dp_undo, oG) := ⟨te_dp_undo, pk_dp, tx_dp_undo oG, rfl⟩
def tb_dp_image : gk_T := [(0, .iload_n 1, 1, 0), (1, .ifCond .eq 50, 4, 51), (4, .aload_n 0, 5, 0), (5, .getfield 88, 8, 0), (8, .aload_n 0, 9, 0), (9, .getfield 12, 12, 0), (12, .invokevirtual 233, 15, 0), (15, .aload_n 0, 16, 0), (16, .getfield 91, 19, 0), (19, .aload_n 0, 20, 0), (20, .getfield 19, 23, 0), (23, .invokevirtual 350, 26, 0), (26, .aload_n 0, 27, 0), (27, .getfield 23, 30, 0), (30, .iconst 0, 31, 0), (31, .aload_n 0, 32, 0), (32, .getfield 94, 35, 0), (35, .iconst 0, 36, 0), (36, .aload_n 0, 37, 0), (37, .getfield 23, 40, 0), (40, .arraylength, 41, 0), (41, .invokestatic 354, 44, 1), (44, .aload_n 0, 45, 0), (45, .iconst 1, 46, 0), (46, .putfield 360, 49, 0), (49, .iconst 1, 50, 0), (50, .ireturn, 51, 0), (51, .aload_n 0, 52, 0), (52, .getfield 360, 55, 0), (55, .ifCond .ne 5, 58, 60), (58, .iconst 0, 59, 0), (59, .ireturn, 60, 0), (60, .aload_n 0, 61, 0), (61, .getfield 12, 64, 0), (64, .aload_n 0, 65, 0), (65, .getfield 88, 68, 0), (68, .invokevirtual 233, 71, 0), (71, .aload_n 0, 72, 0), (72, .getfield 19, 75, 0), (75, .aload_n 0, 76, 0), (76, .getfield 91, 79, 0), (79, .invokevirtual 350, 82, 0), (82, .aload_n 0, 83, 0), (83, .getfield 94, 86, 0), (86, .iconst 0, 87, 0), (87, .aload_n 0, 88, 0), (88, .getfield 23, 91, 0), (91, .iconst 0, 92, 0), (92, .aload_n 0, 93, 0), (93, .getfield 23, 96, 0), (96, .arraylength, 97, 0), (97, .invokestatic 354, 100, 1), (100, .aload_n 0, 101, 0), (101, .getfield 30, 104, 0), (104, .invokevirtual 101, 107, 0), (107, .iconst 1, 108, 0), (108, .ireturn, 109, 0)]
def sw_dp_image : List (Nat × List (Int32 × Nat) × Nat) := []
set_option maxRecDepth 100000 in
theorem te_dp_image : ∀ q ∈ tb_dp_image, gk_eok (gk_M 153).2.1 q = true := by decide +kernel
set_option maxRecDepth 100000 in
theorem tx_dp_image (oG : List (Nat × gk_G)) : ∀ q ∈ tb_dp_image, gk_xok "DryPlaces" pl_dp (3, sw_dp_image, oG) q := by
  have h : tb_dp_image.all (fun q => gk_xokb "DryPlaces" pl_dp sw_dp_image q) = true := by decide +kernel
  exact fun q hq => gk_xok_of (List.all_eq_true.mp h q hq)
theorem ok_dp_image (oG : List (Nat × gk_G)) : gk_ok gk_M 153 tb_dp_image pl_dp (3, sw_dp_image, oG) := ⟨te_dp_image, pk_dp, tx_dp_image oG, rfl⟩
def tb_dp_look : gk_T := [(0, .iload_n 1, 1, 0), (1, .tableswitch 163 0 11 #[63, 71, 79, 87, 95, 103, 111, 119, 128, 137, 146, 155], 64, 0), (64, .aload_n 0, 65, 0), (65, .getfield 12, 68, 0), (68, .getfield 108, 71, 0), (71, .ireturn, 72, 0), (72, .aload_n 0, 73, 0), (73, .getfield 12, 76, 0), (76, .getfield 130, 79, 0), (79, .ireturn, 80, 0), (80, .aload_n 0, 81, 0), (81, .getfield 12, 84, 0), (84, .getfield 236, 87, 0), (87, .ireturn, 88, 0), (88, .aload_n 0, 89, 0), (89, .getfield 12, 92, 0), (92, .getfield 310, 95, 0), (95, .ireturn, 96, 0), (96, .aload_n 0, 97, 0), (97, .getfield 12, 100, 0), (100, .getfield 144, 103, 0), (103, .ireturn, 104, 0), (104, .aload_n 0, 105, 0), (105, .getfield 12, 108, 0), (108, .getfield 230, 111, 0), (111, .ireturn, 112, 0), (112, .aload_n 0, 113, 0), (113, .getfield 12, 116, 0), (116, .getfield 97, 119, 0), (119, .ireturn, 120, 0), (120, .aload_n 0, 121, 0), (121, .getfield 19, 124, 0), (124, .iconst 0, 125, 0), (125, .invokevirtual 173, 128, 0), (128, .ireturn, 129, 0), (129, .aload_n 0, 130, 0), (130, .getfield 19, 133, 0), (133, .iconst 1, 134, 0), (134, .invokevirtual 173, 137, 0), (137, .ireturn, 138, 0), (138, .aload_n 0, 139, 0), (139, .getfield 19, 142, 0), (142, .iconst 2, 143, 0), (143, .invokevirtual 173, 146, 0), (146, .ireturn, 147, 0), (147, .aload_n 0, 148, 0), (148, .getfield 19, 151, 0), (151, .iconst 3, 152, 0), (152, .invokevirtual 173, 155, 0), (155, .ireturn, 156, 0), (156, .aload_n 0, 157, 0), (157, .getfield 30, 160, 0), (160, .getfield 364, 163, 0), (163, .ireturn, 164, 0), (164, .iconst (-1), 165, 0), (165, .ireturn, 166, 0)]
def sw_dp_look : List (Nat × List (Int32 × Nat) × Nat) := [(1, [(0, 64), (1, 72), (2, 80), (3, 88), (4, 96), (5, 104), (6, 112), (7, 120), (8, 129), (9, 138), (10, 147), (11, 156)], 164)]
set_option maxRecDepth 100000 in
theorem te_dp_look : ∀ q ∈ tb_dp_look, gk_eok (gk_M 154).2.1 q = true := by decide +kernel
set_option maxRecDepth 100000 in
theorem tx_dp_look (oG : List (Nat × gk_G)) : ∀ q ∈ tb_dp_look, gk_xok "DryPlaces" pl_dp (1, sw_dp_look, oG) q := by
  have h : tb_dp_look.all (fun q => gk_xokb "DryPlaces" pl_dp sw_dp_look q) = true := by decide +kernel
  exact fun q hq => gk_xok_of (List.all_eq_true.mp h q hq)
theorem ok_dp_look (oG : List (Nat × gk_G)) : gk_ok gk_M 154 tb_dp_look pl_dp (1, sw_dp_look, oG) := ⟨te_dp_look, pk_dp, tx_dp_look oG, rfl⟩
def tb_dp_isWithin : gk_T := [(0, .iload_n 0, 1, 0), (1, .iload_n 1, 2, 0), (2, .if_icmp .lt 12, 5, 14), (5, .iload_n 0, 6, 0), (6, .iload_n 2, 7, 0), (7, .if_icmp .gt 7, 10, 14), (10, .iconst 1, 11, 0), (11, .goto 4, 14, 15), (14, .iconst 0, 15, 0), (15, .ireturn, 16, 0)]
def sw_dp_isWithin : List (Nat × List (Int32 × Nat) × Nat) := []
set_option maxRecDepth 100000 in
theorem te_dp_isWithin : ∀ q ∈ tb_dp_isWithin, gk_eok (gk_M 155).2.1 q = true := by decide +kernel
set_option maxRecDepth 100000 in
theorem tx_dp_isWithin (oG : List (Nat × gk_G)) : ∀ q ∈ tb_dp_isWithin, gk_xok "DryPlaces" pl_dp (3, sw_dp_isWithin, oG) q := by
  have h : tb_dp_isWithin.all (fun q => gk_xokb "DryPlaces" pl_dp sw_dp_isWithin q) = true := by decide +kernel
  exact fun q hq => gk_xok_of (List.all_eq_true.mp h q hq)
theorem ok_dp_isWithin (oG : List (Nat × gk_G)) : gk_ok gk_M 155 tb_dp_isWithin pl_dp (3, sw_dp_isWithin, oG) := ⟨te_dp_isWithin, pk_dp, tx_dp_isWithin oG, rfl⟩
def tb_dp_isCell : gk_T := [(0, .iload_n 0, 1, 0), (1, .iconst 0, 2, 0), (2, .bipush 63, 4, 0), (4, .invokestatic 104, 7, 0), (7, .ireturn, 8, 0)]
def sw_dp_isCell : List (Nat × List (Int32 × Nat) × Nat) := []
set_option maxRecDepth 100000 in
theorem te_dp_isCell : ∀ q ∈ tb_dp_isCell, gk_eok (gk_M 156).2.1 q = true := by decide +kernel
set_option maxRecDepth 100000 in
theorem tx_dp_isCell (oG : List (Nat × gk_G)) : ∀ q ∈ tb_dp_isCell, gk_xok "DryPlaces" pl_dp (3, sw_dp_isCell, oG) q := by
  have h : tb_dp_isCell.all (fun q => gk_xokb "DryPlaces" pl_dp sw_dp_isCell q) = true := by decide +kernel
  exact fun q hq => gk_xok_of (List.all_eq_true.mp h q hq)
theorem ok_dp_isCell (oG : List (Nat × gk_G)) : gk_ok gk_M 156 tb_dp_isCell pl_dp (3, sw_dp_isCell, oG) := ⟨te_dp_isCell, pk_dp, tx_dp_isCell oG, rfl⟩
def tb_dp_isRoom : gk_T := [(0, .iload_n 0, 1, 0), (1, .iconst 0, 2, 0), (2, .iconst 5, 3, 0), (3, .invokestatic 104, 6, 0), (6, .ireturn, 7, 0)]
def sw_dp_isRoom : List (Nat × List (Int32 × Nat) × Nat) := []
set_option maxRecDepth 100000 in
theorem te_dp_isRoom : ∀ q ∈ tb_dp_isRoom, gk_eok (gk_M 157).2.1 q = true := by decide +kernel
set_option maxRecDepth 100000 in
theorem tx_dp_isRoom (oG : List (Nat × gk_G)) : ∀ q ∈ tb_dp_isRoom, gk_xok "DryPlaces" pl_dp (3, sw_dp_isRoom, oG) q := by
  have h : tb_dp_isRoom.all (fun q => gk_xokb "DryPlaces" pl_dp sw_dp_isRoom q) = true := by decide +kernel
  exact fun q hq => gk_xok_of (List.all_eq_true.mp h q hq)
theorem ok_dp_isRoom (oG : List (Nat × gk_G)) : gk_ok gk_M 157 tb_dp_isRoom pl_dp (3, sw_dp_isRoom, oG) := ⟨te_dp_isRoom, pk_dp, tx_dp_isRoom oG, rfl⟩
def tb_dp_priceOf : gk_T := [(0, .iconst 0, 1, 0), (1, .istore_n 2, 2, 0), (2, .iconst 0, 3, 0), (3, .istore_n 3, 4, 0), (4, .iload_n 3, 5, 0), (5, .aload_n 0, 6, 0), (6, .getfield 12, 9, 0), (9, .getfield 108, 12, 0), (12, .if_icmp .ge 26, 15, 38), (15, .iload_n 1, 16, 0), (16, .iload_n 3, 17, 0), (17, .ishr, 18, 0), (18, .iconst 1, 19, 0), (19, .iand, 20, 0), (20, .ifCond .eq 12, 23, 32), (23, .iload_n 2, 24, 0), (24, .aload_n 0, 25, 0), (25, .getfield 85, 28, 0), (28, .iload_n 3, 29, 0), (29, .iaload, 30, 0), (30, .iadd, 31, 0), (31, .istore_n 2, 32, 0), (32, .iinc 3 1, 35, 0), (35, .goto (-31), 38, 4), (38, .iload_n 2, 39, 0), (39, .ireturn, 40, 0)]
def sw_dp_priceOf : List (Nat × List (Int32 × Nat) × Nat) := []
set_option maxRecDepth 100000 in
theorem te_dp_priceOf : ∀ q ∈ tb_dp_priceOf, gk_eok (gk_M 158).2.1 q = true := by decide +kernel
set_option maxRecDepth 100000 in
theorem tx_dp_priceOf (oG : List (Nat × gk_G)) : ∀ q ∈ tb_dp_priceOf, gk_xok "DryPlaces" pl_dp (1, sw_dp_priceOf, oG) q := by
  have h : tb_dp_priceOf.all (fun q => gk_xokb "DryPlaces" pl_dp sw_dp_priceOf q) = true := by decide +kernel
  exact fun q hq => gk_xok_of (List.all_eq_true.mp h q hq)
theorem ok_dp_priceOf (oG : List (Nat × gk_G)) : gk_ok gk_M 158 tb_dp_priceOf pl_dp (1, sw_dp_priceOf, oG) := ⟨te_dp_priceOf, pk_dp, tx_dp_priceOf oG, rfl⟩
def tb_dp_vouchersOfAll : gk_T := [(0, .iconst 0, 1, 0), (1, .istore_n 2, 2, 0), (2, .iconst 0, 3, 0), (3, .istore_n 3, 4, 0), (4, .iload_n 3, 5, 0), (5, .bipush 10, 7, 0), (7, .if_icmp .ge 29, 10, 36), (10, .iload_n 1, 11, 0), (11, .iload_n 3, 12, 0), (12, .ishr, 13, 0), (13, .iconst 1, 14, 0), (14, .iand, 15, 0), (15, .ifCond .eq 15, 18, 30), (18, .iload_n 2, 19, 0), (19, .aload_n 0, 20, 0), (20, .getfield 19, 23, 0), (23, .getfield 326, 26, 0), (26, .iload_n 3, 27, 0), (27, .iaload, 28, 0), (28, .ior, 29, 0), (29, .istore_n 2, 30, 0), (30, .iinc 3 1, 33, 0), (33, .goto (-29), 36, 4), (36, .iload_n 2, 37, 0), (37, .ireturn, 38, 0)]
def sw_dp_vouchersOfAll : List (Nat × List (Int32 × Nat) × Nat) := []
set_option maxRecDepth 100000 in
theorem te_dp_vouchersOfAll : ∀ q ∈ tb_dp_vouchersOfAll, gk_eok (gk_M 159).2.1 q = true := by decide +kernel
set_option maxRecDepth 100000 in
theorem tx_dp_vouchersOfAll (oG : List (Nat × gk_G)) : ∀ q ∈ tb_dp_vouchersOfAll, gk_xok "DryPlaces" pl_dp (1, sw_dp_vouchersOfAll, oG) q := by
  have h : tb_dp_vouchersOfAll.all (fun q => gk_xokb "DryPlaces" pl_dp sw_dp_vouchersOfAll q) = true := by decide +kernel
  exact fun q hq => gk_xok_of (List.all_eq_true.mp h q hq)
theorem ok_dp_vouchersOfAll (oG : List (Nat × gk_G)) : gk_ok gk_M 159 tb_dp_vouchersOfAll pl_dp (1, sw_dp_vouchersOfAll, oG) := ⟨te_dp_vouchersOfAll, pk_dp, tx_dp_vouchersOfAll oG, rfl⟩
def tb_dp_heapOf : gk_T := [(0, .aload_n 0, 1, 0), (1, .getfield 12, 4, 0), (4, .iload_n 1, 5, 0), (5, .invokevirtual 191, 8, 0), (8, .ifCond .eq 18, 11, 26), (11, .aload_n 0, 12, 0), (12, .getfield 12, 15, 0), (15, .getfield 119, 18, 0), (18, .iload_n 1, 19, 0), (19, .laload, 20, 0), (20, .invokestatic 248, 23, 0), (23, .goto 4, 26, 27), (26, .iconst 0, 27, 0), (27, .ireturn, 28, 0)]
def sw_dp_heapOf : List (Nat × List (Int32 × Nat) × Nat) := []
set_option maxRecDepth 100000 in
theorem te_dp_heapOf : ∀ q ∈ tb_dp_heapOf, gk_eok (gk_M 160).2.1 q = true := by decide +kernel
set_option maxRecDepth 100000 in
theorem tx_dp_heapOf (oG : List (Nat × gk_G)) : ∀ q ∈ tb_dp_heapOf, gk_xok "DryPlaces" pl_dp (1, sw_dp_heapOf, oG) q := by
  have h : tb_dp_heapOf.all (fun q => gk_xokb "DryPlaces" pl_dp sw_dp_heapOf q) = true := by decide +kernel
  exact fun q hq => gk_xok_of (List.all_eq_true.mp h q hq)
theorem ok_dp_heapOf (oG : List (Nat × gk_G)) : gk_ok gk_M 160 tb_dp_heapOf pl_dp (1, sw_dp_heapOf, oG) := ⟨te_dp_heapOf, pk_dp, tx_dp_heapOf oG, rfl⟩
def tb_dp_winningTake : gk_T := [(0, .iload_n 1, 1, 0), (1, .iload_n 0, 2, 0), (2, .bipush 6, 4, 0), (4, .irem, 5, 0), (5, .ixor, 6, 0), (6, .istore_n 2, 7, 0), (7, .iconst 1, 8, 0), (8, .istore_n 3, 9, 0), (9, .iload_n 3, 10, 0), (10, .iconst 5, 11, 0), (11, .if_icmp .gt 26, 14, 37), (14, .iload_n 3, 15, 0), (15, .iload_n 0, 16, 0), (16, .if_icmp .gt 21, 19, 37), (19, .iload_n 0, 20, 0), (20, .iload_n 3, 21, 0), (21, .isub, 22, 0), (22, .bipush 6, 24, 0), (24, .irem, 25, 0), (25, .iload_n 2, 26, 0), (26, .if_icmp .ne 5, 29, 31), (29, .iload_n 3, 30, 0), (30, .ireturn, 31, 0), (31, .iinc 3 1, 34, 0), (34, .goto (-25), 37, 9), (37, .iconst (-1), 38, 0), (38, .ireturn, 39, 0)]
def sw_dp_winningTake : List (Nat × List (Int32 × Nat) × Nat) := []
set_option maxRecDepth 100000 in
theorem te_dp_winningTake : ∀ q ∈ tb_dp_winningTake, gk_eok (gk_M 161).2.1 q = true := by decide +kernel
set_option maxRecDepth 100000 in
theorem tx_dp_winningTake (oG : List (Nat × gk_G)) : ∀ q ∈ tb_dp_winningTake, gk_xok "DryPlaces" pl_dp (1, sw_dp_winningTake, oG) q := by
  have h : tb_dp_winningTake.all (fun q => gk_xokb "DryPlaces" pl_dp sw_dp_winningTake q) = true := by decide +kernel
  exact fun q hq => gk_xok_of (List.all_eq_true.mp h q hq)
theorem ok_dp_winningTake (oG : List (Nat × gk_G)) : gk_ok gk_M 161 tb_dp_winningTake pl_dp (1, sw_dp_winningTake, oG) := ⟨te_dp_winningTake, pk_dp, tx_dp_winningTake oG, rfl⟩
