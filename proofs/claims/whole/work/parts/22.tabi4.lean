/-! the instructions (written by a program) -/
def tb_la_init : gk_T := [(0, .aload_n 0, 1, 0), (1, .invokespecial 3, 4, 0), (4, .aload_n 0, 5, 0), (5, .bipush 16, 7, 0), (7, .newarray .int, 9, 0), (9, .putfield 9, 12, 0), (12, .aload_n 0, 13, 0), (13, .bipush 16, 15, 0), (15, .newarray .int, 17, 0), (17, .putfield 15, 20, 0), (20, .aload_n 0, 21, 0), (21, .bipush 16, 23, 0), (23, .newarray .int, 25, 0), (25, .putfield 18, 28, 0), (28, .aload_n 0, 29, 0), (29, .bipush 16, 31, 0), (31, .newarray .int, 33, 0), (33, .putfield 21, 36, 0), (36, .aload_n 0, 37, 0), (37, .sipush 400, 40, 0), (40, .newarray .int, 42, 0), (42, .putfield 24, 45, 0), (45, .aload_n 0, 46, 0), (46, .sipush 400, 49, 0), (49, .newarray .int, 51, 0), (51, .putfield 27, 54, 0), (54, .return_, 55, 0)]
def sw_la_init : List (Nat × List (Int32 × Nat) × Nat) := []
set_option maxRecDepth 100000 in
theorem te_la_init : ∀ q ∈ tb_la_init, gk_eok (gk_M 47).2.1 q = true := by decide +kernel
set_option maxRecDepth 100000 in
theorem tx_la_init (oG : List (Nat × gk_G)) : ∀ q ∈ tb_la_init, gk_xok "DryPlaces$Law" pl_la (0, sw_la_init, oG) q := by
  have h : tb_la_init.all (fun q => gk_xokb "DryPlaces$Law" pl_la sw_la_init q) = true := by decide +kernel
  exact fun q hq => gk_xok_of (List.all_eq_true.mp h q hq)
theorem ok_la_init (oG : List (Nat × gk_G)) : gk_ok gk_M 47 tb_la_init pl_la (0, sw_la_init, oG) := ⟨te_la_init, pk_la, tx_la_init oG, rfl⟩
def tb_la_clear : gk_T := [(0, .aload_n 0, 1, 0), (1, .iconst 0, 2, 0), (2, .putfield 30, 5, 0), (5, .aload_n 0, 6, 0), (6, .iconst 0, 7, 0), (7, .putfield 34, 10, 0), (10, .return_, 11, 0)]
def sw_la_clear : List (Nat × List (Int32 × Nat) × Nat) := []
set_option maxRecDepth 100000 in
theorem te_la_clear : ∀ q ∈ tb_la_clear, gk_eok (gk_M 48).2.1 q = true := by decide +kernel
set_option maxRecDepth 100000 in
theorem tx_la_clear (oG : List (Nat × gk_G)) : ∀ q ∈ tb_la_clear, gk_xok "DryPlaces$Law" pl_la (0, sw_la_clear, oG) q := by
  have h : tb_la_clear.all (fun q => gk_xokb "DryPlaces$Law" pl_la sw_la_clear q) = true := by decide +kernel
  exact fun q hq => gk_xok_of (List.all_eq_true.mp h q hq)
theorem ok_la_clear (oG : List (Nat × gk_G)) : gk_ok gk_M 48 tb_la_clear pl_la (0, sw_la_clear, oG) := ⟨te_la_clear, pk_la, tx_la_clear oG, rfl⟩
def tb_la_copy : gk_T := [(0, .aload_n 0, 1, 0), (1, .aload_n 1, 2, 0), (2, .getfield 30, 5, 0), (5, .putfield 30, 8, 0), (8, .aload_n 0, 9, 0), (9, .aload_n 1, 10, 0), (10, .getfield 34, 13, 0), (13, .putfield 34, 16, 0), (16, .aload_n 1, 17, 0), (17, .getfield 9, 20, 0), (20, .iconst 0, 21, 0), (21, .aload_n 0, 22, 0), (22, .getfield 9, 25, 0), (25, .iconst 0, 26, 0), (26, .bipush 16, 28, 0), (28, .invokestatic 37, 31, 1), (31, .aload_n 1, 32, 0), (32, .getfield 15, 35, 0), (35, .iconst 0, 36, 0), (36, .aload_n 0, 37, 0), (37, .getfield 15, 40, 0), (40, .iconst 0, 41, 0), (41, .bipush 16, 43, 0), (43, .invokestatic 37, 46, 1), (46, .aload_n 1, 47, 0), (47, .getfield 18, 50, 0), (50, .iconst 0, 51, 0), (51, .aload_n 0, 52, 0), (52, .getfield 18, 55, 0), (55, .iconst 0, 56, 0), (56, .bipush 16, 58, 0), (58, .invokestatic 37, 61, 1), (61, .aload_n 1, 62, 0), (62, .getfield 21, 65, 0), (65, .iconst 0, 66, 0), (66, .aload_n 0, 67, 0), (67, .getfield 21, 70, 0), (70, .iconst 0, 71, 0), (71, .bipush 16, 73, 0), (73, .invokestatic 37, 76, 1), (76, .aload_n 1, 77, 0), (77, .getfield 24, 80, 0), (80, .iconst 0, 81, 0), (81, .aload_n 0, 82, 0), (82, .getfield 24, 85, 0), (85, .iconst 0, 86, 0), (86, .aload_n 0, 87, 0), (87, .getfield 34, 90, 0), (90, .invokestatic 37, 93, 1), (93, .aload_n 1, 94, 0), (94, .getfield 27, 97, 0), (97, .iconst 0, 98, 0), (98, .aload_n 0, 99, 0), (99, .getfield 27, 102, 0), (102, .iconst 0, 103, 0), (103, .aload_n 0, 104, 0), (104, .getfield 34, 107, 0), (107, .invokestatic 37, 110, 1), (110, .return_, 111, 0)]
def sw_la_copy : List (Nat × List (Int32 × Nat) × Nat) := []
set_option maxRecDepth 100000 in
theorem te_la_copy : ∀ q ∈ tb_la_copy, gk_eok (gk_M 49).2.1 q = true := by decide +kernel
set_option maxRecDepth 100000 in
theorem tx_la_copy (oG : List (Nat × gk_G)) : ∀ q ∈ tb_la_copy, gk_xok "DryPlaces$Law" pl_la (0, sw_la_copy, oG) q := by
  have h : tb_la_copy.all (fun q => gk_xokb "DryPlaces$Law" pl_la sw_la_copy q) = true := by decide +kernel
  exact fun q hq => gk_xok_of (List.all_eq_true.mp h q hq)
theorem ok_la_copy (oG : List (Nat × gk_G)) : gk_ok gk_M 49 tb_la_copy pl_la (0, sw_la_copy, oG) := ⟨te_la_copy, pk_la, tx_la_copy oG, rfl⟩
def tb_la_begin : gk_T := [(0, .aload_n 0, 1, 0), (1, .getfield 30, 4, 0), (4, .bipush 16, 6, 0), (6, .if_icmp .ge 26, 9, 32), (9, .aload_n 0, 10, 0), (10, .getfield 9, 13, 0), (13, .aload_n 0, 14, 0), (14, .getfield 30, 17, 0), (17, .iload_n 1, 18, 0), (18, .iastore, 19, 0), (19, .aload_n 0, 20, 0), (20, .getfield 15, 23, 0), (23, .aload_n 0, 24, 0), (24, .getfield 30, 27, 0), (27, .aload_n 0, 28, 0), (28, .getfield 34, 31, 0), (31, .iastore, 32, 0), (32, .return_, 33, 0)]
def sw_la_begin : List (Nat × List (Int32 × Nat) × Nat) := []
set_option maxRecDepth 100000 in
theorem te_la_begin : ∀ q ∈ tb_la_begin, gk_eok (gk_M 50).2.1 q = true := by decide +kernel
set_option maxRecDepth 100000 in
theorem tx_la_begin (oG : List (Nat × gk_G)) : ∀ q ∈ tb_la_begin, gk_xok "DryPlaces$Law" pl_la (0, sw_la_begin, oG) q := by
  have h : tb_la_begin.all (fun q => gk_xokb "DryPlaces$Law" pl_la sw_la_begin q) = true := by decide +kernel
  exact fun q hq => gk_xok_of (List.all_eq_true.mp h q hq)
theorem ok_la_begin (oG : List (Nat × gk_G)) : gk_ok gk_M 50 tb_la_begin pl_la (0, sw_la_begin, oG) := ⟨te_la_begin, pk_la, tx_la_begin oG, rfl⟩
def tb_la_beginWhen : gk_T := [(0, .aload_n 0, 1, 0), (1, .getfield 30, 4, 0), (4, .bipush 16, 6, 0), (6, .if_icmp .ge 16, 9, 22), (9, .aload_n 0, 10, 0), (10, .getfield 18, 13, 0), (13, .aload_n 0, 14, 0), (14, .getfield 30, 17, 0), (17, .aload_n 0, 18, 0), (18, .getfield 34, 21, 0), (21, .iastore, 22, 0), (22, .return_, 23, 0)]
def sw_la_beginWhen : List (Nat × List (Int32 × Nat) × Nat) := []
set_option maxRecDepth 100000 in
theorem te_la_beginWhen : ∀ q ∈ tb_la_beginWhen, gk_eok (gk_M 51).2.1 q = true := by decide +kernel
set_option maxRecDepth 100000 in
theorem tx_la_beginWhen (oG : List (Nat × gk_G)) : ∀ q ∈ tb_la_beginWhen, gk_xok "DryPlaces$Law" pl_la (0, sw_la_beginWhen, oG) q := by
  have h : tb_la_beginWhen.all (fun q => gk_xokb "DryPlaces$Law" pl_la sw_la_beginWhen q) = true := by decide +kernel
  exact fun q hq => gk_xok_of (List.all_eq_true.mp h q hq)
theorem ok_la_beginWhen (oG : List (Nat × gk_G)) : gk_ok gk_M 51 tb_la_beginWhen pl_la (0, sw_la_beginWhen, oG) := ⟨te_la_beginWhen, pk_la, tx_la_beginWhen oG, rfl⟩
def tb_la_finish : gk_T := [(0, .aload_n 0, 1, 0), (1, .getfield 30, 4, 0), (4, .bipush 16, 6, 0), (6, .if_icmp .ge 26, 9, 32), (9, .aload_n 0, 10, 0), (10, .getfield 21, 13, 0), (13, .aload_n 0, 14, 0), (14, .getfield 30, 17, 0), (17, .aload_n 0, 18, 0), (18, .getfield 34, 21, 0), (21, .iastore, 22, 0), (22, .aload_n 0, 23, 0), (23, .dup, 24, 0), (24, .getfield 30, 27, 0), (27, .iconst 1, 28, 0), (28, .iadd, 29, 0), (29, .putfield 30, 32, 0), (32, .return_, 33, 0)]
def sw_la_finish : List (Nat × List (Int32 × Nat) × Nat) := []
set_option maxRecDepth 100000 in
theorem te_la_finish : ∀ q ∈ tb_la_finish, gk_eok (gk_M 52).2.1 q = true := by decide +kernel
set_option maxRecDepth 100000 in
theorem tx_la_finish (oG : List (Nat × gk_G)) : ∀ q ∈ tb_la_finish, gk_xok "DryPlaces$Law" pl_la (0, sw_la_finish, oG) q := by
  have h : tb_la_finish.all (fun q => gk_xokb "DryPlaces$Law" pl_la sw_la_finish q) = true := by decide +kernel
  exact fun q hq => gk_xok_of (List.all_eq_true.mp h q hq)
theorem ok_la_finish (oG : List (Nat × gk_G)) : gk_ok gk_M 52 tb_la_finish pl_la (0, sw_la_finish, oG) := ⟨te_la_finish, pk_la, tx_la_finish oG, rfl⟩
def tb_la_add : gk_T := [(0, .aload_n 0, 1, 0), (1, .getfield 34, 4, 0), (4, .sipush 400, 7, 0), (7, .if_icmp .ge 33, 10, 40), (10, .aload_n 0, 11, 0), (11, .getfield 24, 14, 0), (14, .aload_n 0, 15, 0), (15, .getfield 34, 18, 0), (18, .iload_n 1, 19, 0), (19, .iastore, 20, 0), (20, .aload_n 0, 21, 0), (21, .getfield 27, 24, 0), (24, .aload_n 0, 25, 0), (25, .getfield 34, 28, 0), (28, .iload_n 2, 29, 0), (29, .iastore, 30, 0), (30, .aload_n 0, 31, 0), (31, .dup, 32, 0), (32, .getfield 34, 35, 0), (35, .iconst 1, 36, 0), (36, .iadd, 37, 0), (37, .putfield 34, 40, 0), (40, .return_, 41, 0)]
def sw_la_add : List (Nat × List (Int32 × Nat) × Nat) := []
set_option maxRecDepth 100000 in
theorem te_la_add : ∀ q ∈ tb_la_add, gk_eok (gk_M 53).2.1 q = true := by decide +kernel
set_option maxRecDepth 100000 in
theorem tx_la_add (oG : List (Nat × gk_G)) : ∀ q ∈ tb_la_add, gk_xok "DryPlaces$Law" pl_la (0, sw_la_add, oG) q := by
  have h : tb_la_add.all (fun q => gk_xokb "DryPlaces$Law" pl_la sw_la_add q) = true := by decide +kernel
  exact fun q hq => gk_xok_of (List.all_eq_true.mp h q hq)
theorem ok_la_add (oG : List (Nat × gk_G)) : gk_ok gk_M 53 tb_la_add pl_la (0, sw_la_add, oG) := ⟨te_la_add, pk_la, tx_la_add oG, rfl⟩
def tb_pa_init : gk_T := [(0, .aload_n 0, 1, 0), (1, .invokespecial 3, 4, 0), (4, .aload_n 0, 5, 0), (5, .new 9, 8, 0), (8, .dup, 9, 0), (9, .invokespecial 11, 12, 0), (12, .putfield 12, 15, 0), (15, .aload_n 0, 16, 0), (16, .iconst (-1), 17, 0), (17, .putfield 18, 20, 0), (20, .aload_n 0, 21, 0), (21, .aload_n 1, 22, 0), (22, .putfield 22, 25, 0), (25, .return_, 26, 0)]
def sw_pa_init : List (Nat × List (Int32 × Nat) × Nat) := []
set_option maxRecDepth 100000 in
theorem te_pa_init : ∀ q ∈ tb_pa_init, gk_eok (gk_M 54).2.1 q = true := by decide +kernel
set_option maxRecDepth 100000 in
theorem tx_pa_init (oG : List (Nat × gk_G)) : ∀ q ∈ tb_pa_init, gk_xok "DryPlaces$Parser" pl_pa (0, sw_pa_init, oG) q := by
  have h : tb_pa_init.all (fun q => gk_xokb "DryPlaces$Parser" pl_pa sw_pa_init q) = true := by decide +kernel
  exact fun q hq => gk_xok_of (List.all_eq_true.mp h q hq)
theorem ok_pa_init (oG : List (Nat × gk_G)) : gk_ok gk_M 54 tb_pa_init pl_pa (0, sw_pa_init, oG) := ⟨te_pa_init, pk_pa, tx_pa_init oG, rfl⟩
def tb_pa_parse : gk_T := [(0, .aload_n 0, 1, 0), (1, .iconst 0, 2, 0), (2, .putfield 26, 5, 0), (5, .aload_n 0, 6, 0), (6, .iconst (-1), 7, 0), (7, .putfield 18, 10, 0), (10, .iload_n 1, 11, 0), (11, .ifCond .lt 8, 14, 19), (14, .iload_n 1, 15, 0), (15, .iconst 4, 16, 0), (16, .if_icmp .lt 5, 19, 21), (19, .iconst 0, 20, 0), (20, .ireturn, 21, 0), (21, .aload_n 0, 22, 0), (22, .iload_n 2, 23, 0), (23, .putfield 29, 26, 0), (26, .aload_n 0, 27, 0), (27, .getfield 12, 30, 0), (30, .iload_n 1, 31, 0), (31, .invokevirtual 32, 34, 0), (34, .aload_n 0, 35, 0), (35, .getfield 22, 38, 0), (38, .invokevirtual 36, 41, 0), (41, .aload_n 0, 42, 0), (42, .iconst 0, 43, 0), (43, .putfield 41, 46, 0), (46, .aload_n 0, 47, 0), (47, .aload_n 0, 48, 0), (48, .getfield 22, 51, 0), (51, .getfield 44, 54, 0), (54, .iconst 0, 55, 0), (55, .iaload, 56, 0), (56, .putfield 48, 59, 0), (59, .iconst 1, 60, 0), (60, .istore_n 3, 61, 0), (61, .iconst 0, 62, 0), (62, .istore 4, 64, 0), (64, .iload 4, 66, 0), (66, .bipush 16, 68, 0), (68, .if_icmp .gt 102, 71, 170), (71, .iload_n 3, 72, 0), (72, .ifCond .eq 98, 75, 170), (75, .aload_n 0, 76, 0), (76, .getfield 48, 79, 0), (79, .ifCond .eq 91, 82, 170), (82, .aload_n 0, 83, 0), (83, .iload_n 1, 84, 0), (84, .invokevirtual 50, 87, 0), (87, .ifCond .ne 12, 90, 99), (90, .aload_n 0, 91, 0), (91, .iconst 1, 92, 0), (92, .invokevirtual 54, 95, 0), (95, .istore_n 3, 96, 0), (96, .goto 68, 99, 164), (99, .aload_n 0, 100, 0), (100, .getfield 12, 103, 0), (103, .iload_n 1, 104, 0), (104, .invokevirtual 57, 107, 0), (107, .bipush 16, 109, 0), (109, .if_icmp .lt 12, 112, 121), (112, .aload_n 0, 113, 0), (113, .iconst 3, 114, 0), (114, .invokevirtual 54, 117, 0), (117, .istore_n 3, 118, 0), (118, .goto 46, 121, 164), (121, .iload_n 1, 122, 0), (122, .ifCond .ne 11, 125, 133), (125, .aload_n 0, 126, 0), (126, .invokevirtual 61, 129, 0), (129, .istore_n 3, 130, 0), (130, .goto 34, 133, 164), (133, .iload_n 1, 134, 0), (134, .iconst 1, 135, 0), (135, .if_icmp .ne 11, 138, 146), (138, .aload_n 0, 139, 0), (139, .invokevirtual 65, 142, 0), (142, .istore_n 3, 143, 0), (143, .goto 21, 146, 164), (146, .iload_n 1, 147, 0), (147, .iconst 2, 148, 0), (148, .if_icmp .ne 11, 151, 159), (151, .aload_n 0, 152, 0), (152, .invokevirtual 68, 155, 0), (155, .istore_n 3, 156, 0), (156, .goto 8, 159, 164), (159, .aload_n 0, 160, 0), (160, .invokevirtual 71, 163, 0), (163, .istore_n 3, 164, 0), (164, .iinc 4 1, 167, 0), (167, .goto (-103), 170, 64), (170, .iload_n 3, 171, 0), (171, .ireturn, 172, 0)]
def sw_pa_parse : List (Nat × List (Int32 × Nat) × Nat) := []
set_option maxRecDepth 100000 in
theorem te_pa_parse : ∀ q ∈ tb_pa_parse, gk_eok (gk_M 55).2.1 q = true := by decide +kernel
set_option maxRecDepth 100000 in
theorem tx_pa_parse (oG : List (Nat × gk_G)) : ∀ q ∈ tb_pa_parse, gk_xok "DryPlaces$Parser" pl_pa (3, sw_pa_parse, oG) q := by
  have h : tb_pa_parse.all (fun q => gk_xokb "DryPlaces$Parser" pl_pa sw_pa_parse q) = true := by decide +kernel
  exact fun q hq => gk_xok_of (List.all_eq_true.mp h q hq)
theorem ok_pa_parse (oG : List (Nat × gk_G)) : gk_ok gk_M 55 tb_pa_parse pl_pa (3, sw_pa_parse, oG) := ⟨te_pa_parse, pk_pa, tx_pa_parse oG, rfl⟩
def tb_pa_canBegin : gk_T := [(0, .iload_n 1, 1, 0), (1, .tableswitch 81 0 2 #[27, 51, 66], 28, 0), (28, .aload_n 0, 29, 0), (29, .getfield 48, 32, 0), (32, .bipush 100, 34, 0), (34, .if_icmp .lt 16, 37, 50), (37, .aload_n 0, 38, 0), (38, .getfield 48, 41, 0), (41, .bipush 102, 43, 0), (43, .if_icmp .gt 7, 46, 50), (46, .iconst 1, 47, 0), (47, .goto 4, 50, 51), (50, .iconst 0, 51, 0), (51, .ireturn, 52, 0), (52, .aload_n 0, 53, 0), (53, .getfield 48, 56, 0), (56, .bipush 111, 58, 0), (58, .if_icmp .ne 7, 61, 65), (61, .iconst 1, 62, 0), (62, .goto 4, 65, 66), (65, .iconst 0, 66, 0), (66, .ireturn, 67, 0), (67, .aload_n 0, 68, 0), (68, .getfield 48, 71, 0), (71, .bipush 117, 73, 0), (73, .if_icmp .ne 7, 76, 80), (76, .iconst 1, 77, 0), (77, .goto 4, 80, 81), (80, .iconst 0, 81, 0), (81, .ireturn, 82, 0), (82, .aload_n 0, 83, 0), (83, .getfield 48, 86, 0), (86, .bipush 123, 88, 0), (88, .if_icmp .ne 7, 91, 95), (91, .iconst 1, 92, 0), (92, .goto 4, 95, 96), (95, .iconst 0, 96, 0), (96, .ireturn, 97, 0)]
def sw_pa_canBegin : List (Nat × List (Int32 × Nat) × Nat) := [(1, [(0, 28), (1, 52), (2, 67)], 82)]
set_option maxRecDepth 100000 in
theorem te_pa_canBegin : ∀ q ∈ tb_pa_canBegin, gk_eok (gk_M 56).2.1 q = true := by decide +kernel
set_option maxRecDepth 100000 in
theorem tx_pa_canBegin (oG : List (Nat × gk_G)) : ∀ q ∈ tb_pa_canBegin, gk_xok "DryPlaces$Parser" pl_pa (3, sw_pa_canBegin, oG) q := by
  have h : tb_pa_canBegin.all (fun q => gk_xokb "DryPlaces$Parser" pl_pa sw_pa_canBegin q) = true := by decide +kernel
  exact fun q hq => gk_xok_of (List.all_eq_true.mp h q hq)
theorem ok_pa_canBegin (oG : List (Nat × gk_G)) : gk_ok gk_M 56 tb_pa_canBegin pl_pa (3, sw_pa_canBegin, oG) := ⟨te_pa_canBegin, pk_pa, tx_pa_canBegin oG, rfl⟩
def tb_pa_refuse : gk_T := [(0, .aload_n 0, 1, 0), (1, .iload_n 1, 2, 0), (2, .putfield 26, 5, 0), (5, .aload_n 0, 6, 0), (6, .aload_n 0, 7, 0), (7, .getfield 22, 10, 0), (10, .getfield 74, 13, 0), (13, .aload_n 0, 14, 0), (14, .getfield 41, 17, 0), (17, .iaload, 18, 0), (18, .putfield 18, 21, 0), (21, .iconst 0, 22, 0), (22, .ireturn, 23, 0)]
def sw_pa_refuse : List (Nat × List (Int32 × Nat) × Nat) := []
set_option maxRecDepth 100000 in
theorem te_pa_refuse : ∀ q ∈ tb_pa_refuse, gk_eok (gk_M 57).2.1 q = true := by decide +kernel
set_option maxRecDepth 100000 in
theorem tx_pa_refuse (oG : List (Nat × gk_G)) : ∀ q ∈ tb_pa_refuse, gk_xok "DryPlaces$Parser" pl_pa (3, sw_pa_refuse, oG) q := by
  have h : tb_pa_refuse.all (fun q => gk_xokb "DryPlaces$Parser" pl_pa sw_pa_refuse q) = true := by decide +kernel
  exact fun q hq => gk_xok_of (List.all_eq_true.mp h q hq)
theorem ok_pa_refuse (oG : List (Nat × gk_G)) : gk_ok gk_M 57 tb_pa_refuse pl_pa (3, sw_pa_refuse, oG) := ⟨te_pa_refuse, pk_pa, tx_pa_refuse oG, rfl⟩
def tb_pa_step : gk_T := [(0, .aload_n 0, 1, 0), (1, .getfield 48, 4, 0), (4, .ifCond .eq 39, 7, 43), (7, .aload_n 0, 8, 0), (8, .getfield 41, 11, 0), (11, .sipush 400, 14, 0), (14, .if_icmp .ge 29, 17, 43), (17, .aload_n 0, 18, 0), (18, .dup, 19, 0), (19, .getfield 41, 22, 0), (22, .iconst 1, 23, 0), (23, .iadd, 24, 0), (24, .putfield 41, 27, 0), (27, .aload_n 0, 28, 0), (28, .aload_n 0, 29, 0), (29, .getfield 22, 32, 0), (32, .getfield 44, 35, 0), (35, .aload_n 0, 36, 0), (36, .getfield 41, 39, 0), (39, .iaload, 40, 0), (40, .putfield 48, 43, 0), (43, .return_, 44, 0)]
def sw_pa_step : List (Nat × List (Int32 × Nat) × Nat) := []
set_option maxRecDepth 100000 in
theorem te_pa_step : ∀ q ∈ tb_pa_step, gk_eok (gk_M 58).2.1 q = true := by decide +kernel
set_option maxRecDepth 100000 in
theorem tx_pa_step (oG : List (Nat × gk_G)) : ∀ q ∈ tb_pa_step, gk_xok "DryPlaces$Parser" pl_pa (0, sw_pa_step, oG) q := by
  have h : tb_pa_step.all (fun q => gk_xokb "DryPlaces$Parser" pl_pa sw_pa_step q) = true := by decide +kernel
  exact fun q hq => gk_xok_of (List.all_eq_true.mp h q hq)
theorem ok_pa_step (oG : List (Nat × gk_G)) : gk_ok gk_M 58 tb_pa_step pl_pa (0, sw_pa_step, oG) := ⟨te_pa_step, pk_pa, tx_pa_step oG, rfl⟩
def tb_pa_take : gk_T := [(0, .aload_n 0, 1, 0), (1, .getfield 48, 4, 0), (4, .iload_n 1, 5, 0), (5, .if_icmp .eq 9, 8, 14), (8, .aload_n 0, 9, 0), (9, .iconst 1, 10, 0), (10, .invokevirtual 54, 13, 0), (13, .ireturn, 14, 0), (14, .aload_n 0, 15, 0), (15, .invokevirtual 77, 18, 0), (18, .iconst 1, 19, 0), (19, .ireturn, 20, 0)]
def sw_pa_take : List (Nat × List (Int32 × Nat) × Nat) := []
set_option maxRecDepth 100000 in
theorem te_pa_take : ∀ q ∈ tb_pa_take, gk_eok (gk_M 59).2.1 q = true := by decide +kernel
set_option maxRecDepth 100000 in
theorem tx_pa_take (oG : List (Nat × gk_G)) : ∀ q ∈ tb_pa_take, gk_xok "DryPlaces$Parser" pl_pa (3, sw_pa_take, oG) q := by
  have h : tb_pa_take.all (fun q => gk_xokb "DryPlaces$Parser" pl_pa sw_pa_take q) = true := by decide +kernel
  exact fun q hq => gk_xok_of (List.all_eq_true.mp h q hq)
theorem ok_pa_take (oG : List (Nat × gk_G)) : gk_ok gk_M 59 tb_pa_take pl_pa (3, sw_pa_take, oG) := ⟨te_pa_take, pk_pa, tx_pa_take oG, rfl⟩
def tb_pa_takeNumber : gk_T := [(0, .aload_n 0, 1, 0), (1, .getfield 22, 4, 0), (4, .getfield 80, 7, 0), (7, .aload_n 0, 8, 0), (8, .getfield 41, 11, 0), (11, .iaload, 12, 0), (12, .istore 4, 14, 0), (14, .aload_n 0, 15, 0), (15, .getfield 48, 18, 0), (18, .iconst 1, 19, 0), (19, .if_icmp .eq 11, 22, 30), (22, .aload_n 0, 23, 0), (23, .iconst 1, 24, 0), (24, .invokevirtual 54, 27, 0), (27, .pop, 28, 0), (28, .iconst (-1), 29, 0), (29, .ireturn, 30, 0), (30, .iload 4, 32, 0), (32, .iload_n 1, 33, 0), (33, .iload_n 2, 34, 0), (34, .invokestatic 83, 37, 0), (37, .ifCond .eq 9, 40, 46), (40, .iload 4, 42, 0), (42, .iload_n 3, 43, 0), (43, .if_icmp .ne 11, 46, 54), (46, .aload_n 0, 47, 0), (47, .iconst 2, 48, 0), (48, .invokevirtual 54, 51, 0), (51, .pop, 52, 0), (52, .iconst (-1), 53, 0), (53, .ireturn, 54, 0), (54, .aload_n 0, 55, 0), (55, .invokevirtual 77, 58, 0), (58, .iload 4, 60, 0), (60, .ireturn, 61, 0)]
def sw_pa_takeNumber : List (Nat × List (Int32 × Nat) × Nat) := []
set_option maxRecDepth 100000 in
theorem te_pa_takeNumber : ∀ q ∈ tb_pa_takeNumber, gk_eok (gk_M 60).2.1 q = true := by decide +kernel
set_option maxRecDepth 100000 in
theorem tx_pa_takeNumber (oG : List (Nat × gk_G)) : ∀ q ∈ tb_pa_takeNumber, gk_xok "DryPlaces$Parser" pl_pa (1, sw_pa_takeNumber, oG) q := by
  have h : tb_pa_takeNumber.all (fun q => gk_xokb "DryPlaces$Parser" pl_pa sw_pa_takeNumber q) = true := by decide +kernel
  exact fun q hq => gk_xok_of (List.all_eq_true.mp h q hq)
theorem ok_pa_takeNumber (oG : List (Nat × gk_G)) : gk_ok gk_M 60 tb_pa_takeNumber pl_pa (1, sw_pa_takeNumber, oG) := ⟨te_pa_takeNumber, pk_pa, tx_pa_takeNumber oG, rfl⟩
def tb_pa_takePlace : gk_T := [(0, .aload_n 0, 1, 0), (1, .iconst 0, 2, 0), (2, .aload_n 0, 3, 0), (3, .getfield 29, 6, 0), (6, .iconst 1, 7, 0), (7, .isub, 8, 0), (8, .iload_n 1, 9, 0), (9, .invokevirtual 87, 12, 0), (12, .ireturn, 13, 0)]
def sw_pa_takePlace : List (Nat × List (Int32 × Nat) × Nat) := []
set_option maxRecDepth 100000 in
theorem te_pa_takePlace : ∀ q ∈ tb_pa_takePlace, gk_eok (gk_M 61).2.1 q = true := by decide +kernel
set_option maxRecDepth 100000 in
theorem tx_pa_takePlace (oG : List (Nat × gk_G)) : ∀ q ∈ tb_pa_takePlace, gk_xok "DryPlaces$Parser" pl_pa (1, sw_pa_takePlace, oG) q := by
  have h : tb_pa_takePlace.all (fun q => gk_xokb "DryPlaces$Parser" pl_pa sw_pa_takePlace q) = true := by decide +kernel
  exact fun q hq => gk_xok_of (List.all_eq_true.mp h q hq)
theorem ok_pa_takePlace (oG : List (Nat × gk_G)) : gk_ok gk_M 61 tb_pa_takePlace pl_pa (1, sw_pa_takePlace, oG) := ⟨te_pa_takePlace, pk_pa, tx_pa_takePlace oG, rfl⟩
def tb_pa_takeRoom : gk_T := [(0, .aload_n 0, 1, 0), (1, .iconst 0, 2, 0), (2, .iconst 5, 3, 0), (3, .iload_n 1, 4, 0), (4, .invokevirtual 87, 7, 0), (7, .ireturn, 8, 0)]
def sw_pa_takeRoom : List (Nat × List (Int32 × Nat) × Nat) := []
set_option maxRecDepth 100000 in
theorem te_pa_takeRoom : ∀ q ∈ tb_pa_takeRoom, gk_eok (gk_M 62).2.1 q = true := by decide +kernel
set_option maxRecDepth 100000 in
theorem tx_pa_takeRoom (oG : List (Nat × gk_G)) : ∀ q ∈ tb_pa_takeRoom, gk_xok "DryPlaces$Parser" pl_pa (1, sw_pa_takeRoom, oG) q := by
  have h : tb_pa_takeRoom.all (fun q => gk_xokb "DryPlaces$Parser" pl_pa sw_pa_takeRoom q) = true := by decide +kernel
  exact fun q hq => gk_xok_of (List.all_eq_true.mp h q hq)
theorem ok_pa_takeRoom (oG : List (Nat × gk_G)) : gk_ok gk_M 62 tb_pa_takeRoom pl_pa (1, sw_pa_takeRoom, oG) := ⟨te_pa_takeRoom, pk_pa, tx_pa_takeRoom oG, rfl⟩
def tb_pa_readPassage : gk_T := [(0, .aload_n 0, 1, 0), (1, .invokevirtual 77, 4, 0), (4, .aload_n 0, 5, 0), (5, .iconst (-1), 6, 0), (6, .invokevirtual 91, 9, 0), (9, .istore_n 1, 10, 0), (10, .iload_n 1, 11, 0), (11, .iconst (-1), 12, 0), (12, .if_icmp .eq 12, 15, 24), (15, .aload_n 0, 16, 0), (16, .bipush 111, 18, 0), (18, .invokevirtual 94, 21, 0), (21, .ifCond .ne 5, 24, 26), (24, .iconst 0, 25, 0), (25, .ireturn, 26, 0), (26, .aload_n 0, 27, 0), (27, .iload_n 1, 28, 0), (28, .invokevirtual 91, 31, 0), (31, .istore_n 2, 32, 0), (32, .iload_n 2, 33, 0), (33, .iconst (-1), 34, 0), (34, .if_icmp .eq 12, 37, 46), (37, .aload_n 0, 38, 0), (38, .bipush 116, 40, 0), (40, .invokevirtual 94, 43, 0), (43, .ifCond .ne 5, 46, 48), (46, .iconst 0, 47, 0), (47, .ireturn, 48, 0), (48, .aload_n 0, 49, 0), (49, .iconst 1, 50, 0), (50, .bipush 99, 52, 0), (52, .iconst (-1), 53, 0), (53, .invokevirtual 87, 56, 0), (56, .istore_n 3, 57, 0), (57, .iload_n 3, 58, 0), (58, .iconst (-1), 59, 0), (59, .if_icmp .eq 12, 62, 71), (62, .aload_n 0, 63, 0), (63, .bipush 59, 65, 0), (65, .invokevirtual 94, 68, 0), (68, .ifCond .ne 5, 71, 73), (71, .iconst 0, 72, 0), (72, .ireturn, 73, 0), (73, .aload_n 0, 74, 0), (74, .getfield 12, 77, 0), (77, .iload_n 1, 78, 0), (78, .iload_n 2, 79, 0), (79, .iload_n 3, 80, 0), (80, .invokevirtual 97, 83, 0), (83, .iconst 1, 84, 0), (84, .ireturn, 85, 0)]
def sw_pa_readPassage : List (Nat × List (Int32 × Nat) × Nat) := []
set_option maxRecDepth 100000 in
theorem te_pa_readPassage : ∀ q ∈ tb_pa_readPassage, gk_eok (gk_M 63).2.1 q = true := by decide +kernel
set_option maxRecDepth 100000 in
theorem tx_pa_readPassage (oG : List (Nat × gk_G)) : ∀ q ∈ tb_pa_readPassage, gk_xok "DryPlaces$Parser" pl_pa (3, sw_pa_readPassage, oG) q := by
  have h : tb_pa_readPassage.all (fun q => gk_xokb "DryPlaces$Parser" pl_pa sw_pa_readPassage q) = true := by decide +kernel
  exact fun q hq => gk_xok_of (List.all_eq_true.mp h q hq)
theorem ok_pa_readPassage (oG : List (Nat × gk_G)) : gk_ok gk_M 63 tb_pa_readPassage pl_pa (3, sw_pa_readPassage, oG) := ⟨te_pa_readPassage, pk_pa, tx_pa_readPassage oG, rfl⟩
def tb_pa_readVoucher : gk_T := [(0, .aload_n 0, 1, 0), (1, .invokevirtual 77, 4, 0), (4, .aload_n 0, 5, 0), (5, .iconst (-1), 6, 0), (6, .invokevirtual 101, 9, 0), (9, .istore_n 1, 10, 0), (10, .iload_n 1, 11, 0), (11, .iconst (-1), 12, 0), (12, .if_icmp .eq 12, 15, 24), (15, .aload_n 0, 16, 0), (16, .bipush 124, 18, 0), (18, .invokevirtual 94, 21, 0), (21, .ifCond .ne 5, 24, 26), (24, .iconst 0, 25, 0), (25, .ireturn, 26, 0), (26, .aload_n 0, 27, 0), (27, .iload_n 1, 28, 0), (28, .invokevirtual 101, 31, 0), (31, .istore_n 2, 32, 0), (32, .iload_n 2, 33, 0), (33, .iconst (-1), 34, 0), (34, .if_icmp .eq 12, 37, 46), (37, .aload_n 0, 38, 0), (38, .bipush 59, 40, 0), (40, .invokevirtual 94, 43, 0), (43, .ifCond .ne 5, 46, 48), (46, .iconst 0, 47, 0), (47, .ireturn, 48, 0), (48, .aload_n 0, 49, 0), (49, .getfield 12, 52, 0), (52, .iload_n 1, 53, 0), (53, .iload_n 2, 54, 0), (54, .invokevirtual 104, 57, 0), (57, .iconst 1, 58, 0), (58, .ireturn, 59, 0)]
def sw_pa_readVoucher : List (Nat × List (Int32 × Nat) × Nat) := []
set_option maxRecDepth 100000 in
theorem te_pa_readVoucher : ∀ q ∈ tb_pa_readVoucher, gk_eok (gk_M 64).2.1 q = true := by decide +kernel
set_option maxRecDepth 100000 in
theorem tx_pa_readVoucher (oG : List (Nat × gk_G)) : ∀ q ∈ tb_pa_readVoucher, gk_xok "DryPlaces$Parser" pl_pa (3, sw_pa_readVoucher, oG) q := by
  have h : tb_pa_readVoucher.all (fun q => gk_xokb "DryPlaces$Parser" pl_pa sw_pa_readVoucher q) = true := by decide +kernel
  exact fun q hq => gk_xok_of (List.all_eq_true.mp h q hq)
theorem ok_pa_readVoucher (oG : List (Nat × gk_G)) : gk_ok gk_M 64 tb_pa_readVoucher pl_pa (3, sw_pa_readVoucher, oG) := ⟨te_pa_readVoucher, pk_pa, tx_pa_readVoucher oG, rfl⟩
def tb_pa_readEntry : gk_T := [(0, .aload_n 0, 1, 0), (1, .invokevirtual 77, 4, 0), (4, .aload_n 0, 5, 0), (5, .iconst 0, 6, 0), (6, .sipush 999, 9, 0), (9, .iconst (-1), 10, 0), (10, .invokevirtual 87, 13, 0), (13, .istore_n 1, 14, 0), (14, .iload_n 1, 15, 0), (15, .iconst (-1), 16, 0), (16, .if_icmp .ne 5, 19, 21), (19, .iconst 0, 20, 0), (20, .ireturn, 21, 0), (21, .aload_n 0, 22, 0), (22, .invokevirtual 108, 25, 0), (25, .istore_n 2, 26, 0), (26, .iload_n 2, 27, 0), (27, .iconst (-1), 28, 0), (28, .if_icmp .ne 9, 31, 37), (31, .aload_n 0, 32, 0), (32, .iconst 1, 33, 0), (33, .invokevirtual 54, 36, 0), (36, .ireturn, 37, 0), (37, .aload_n 0, 38, 0), (38, .invokevirtual 77, 41, 0), (41, .iload_n 2, 42, 0), (42, .iconst 3, 43, 0), (43, .if_icmp .ne 11, 46, 54), (46, .aload_n 0, 47, 0), (47, .iconst (-1), 48, 0), (48, .invokevirtual 91, 51, 0), (51, .goto 8, 54, 59), (54, .aload_n 0, 55, 0), (55, .iconst (-1), 56, 0), (56, .invokevirtual 101, 59, 0), (59, .istore_n 3, 60, 0), (60, .iload_n 3, 61, 0), (61, .iconst (-1), 62, 0), (62, .if_icmp .ne 5, 65, 67), (65, .iconst 0, 66, 0), (66, .ireturn, 67, 0), (67, .aload_n 0, 68, 0), (68, .iload_n 2, 69, 0), (69, .invokevirtual 112, 72, 0), (72, .istore 4, 74, 0), (74, .iload 4, 76, 0), (76, .iconst (-1), 77, 0), (77, .if_icmp .eq 12, 80, 89), (80, .aload_n 0, 81, 0), (81, .bipush 59, 83, 0), (83, .invokevirtual 94, 86, 0), (86, .ifCond .ne 5, 89, 91), (89, .iconst 0, 90, 0), (90, .ireturn, 91, 0), (91, .aload_n 0, 92, 0), (92, .getfield 12, 95, 0), (95, .iload_n 1, 96, 0), (96, .iload_n 2, 97, 0), (97, .iload_n 3, 98, 0), (98, .iload 4, 100, 0), (100, .invokevirtual 115, 103, 0), (103, .iconst 1, 104, 0), (104, .ireturn, 105, 0)]
def sw_pa_readEntry : List (Nat × List (Int32 × Nat) × Nat) := []
set_option maxRecDepth 100000 in
theorem te_pa_readEntry : ∀ q ∈ tb_pa_readEntry, gk_eok (gk_M 65).2.1 q = true := by decide +kernel
set_option maxRecDepth 100000 in
theorem tx_pa_readEntry (oG : List (Nat × gk_G)) : ∀ q ∈ tb_pa_readEntry, gk_xok "DryPlaces$Parser" pl_pa (3, sw_pa_readEntry, oG) q := by
  have h : tb_pa_readEntry.all (fun q => gk_xokb "DryPlaces$Parser" pl_pa sw_pa_readEntry q) = true := by decide +kernel
  exact fun q hq => gk_xok_of (List.all_eq_true.mp h q hq)
theorem ok_pa_readEntry (oG : List (Nat × gk_G)) : gk_ok gk_M 65 tb_pa_readEntry pl_pa (3, sw_pa_readEntry, oG) := ⟨te_pa_readEntry, pk_pa, tx_pa_readEntry oG, rfl⟩
def tb_pa_actOfWord : gk_T := [(0, .aload_n 0, 1, 0), (1, .getfield 48, 4, 0), (4, .tableswitch 78 110 122 #[74, 78, 78, 78, 78, 78, 78, 78, 68, 70, 72, 78, 76], 72, 0), (72, .iconst 0, 73, 0), (73, .ireturn, 74, 0), (74, .iconst 1, 75, 0), (75, .ireturn, 76, 0), (76, .iconst 2, 77, 0), (77, .ireturn, 78, 0), (78, .iconst 3, 79, 0), (79, .ireturn, 80, 0), (80, .iconst 4, 81, 0), (81, .ireturn, 82, 0), (82, .iconst (-1), 83, 0), (83, .ireturn, 84, 0)]
def sw_pa_actOfWord : List (Nat × List (Int32 × Nat) × Nat) := [(4, [(110, 78), (111, 82), (112, 82), (113, 82), (114, 82), (115, 82), (116, 82), (117, 82), (118, 72), (119, 74), (120, 76), (121, 82), (122, 80)], 82)]
set_option maxRecDepth 100000 in
theorem te_pa_actOfWord : ∀ q ∈ tb_pa_actOfWord, gk_eok (gk_M 66).2.1 q = true := by decide +kernel
set_option maxRecDepth 100000 in
theorem tx_pa_actOfWord (oG : List (Nat × gk_G)) : ∀ q ∈ tb_pa_actOfWord, gk_xok "DryPlaces$Parser" pl_pa (1, sw_pa_actOfWord, oG) q := by
  have h : tb_pa_actOfWord.all (fun q => gk_xokb "DryPlaces$Parser" pl_pa sw_pa_actOfWord q) = true := by decide +kernel
  exact fun q hq => gk_xok_of (List.all_eq_true.mp h q hq)
theorem ok_pa_actOfWord (oG : List (Nat × gk_G)) : gk_ok gk_M 66 tb_pa_actOfWord pl_pa (1, sw_pa_actOfWord, oG) := ⟨te_pa_actOfWord, pk_pa, tx_pa_actOfWord oG, rfl⟩
def tb_pa_takeDetail : gk_T := [(0, .iload_n 1, 1, 0), (1, .tableswitch 64 2 4 #[27, 46, 55], 28, 0), (28, .aload_n 0, 29, 0), (29, .bipush 121, 31, 0), (31, .invokevirtual 94, 34, 0), (34, .ifCond .eq 11, 37, 45), (37, .aload_n 0, 38, 0), (38, .iconst (-1), 39, 0), (39, .invokevirtual 91, 42, 0), (42, .goto 4, 45, 46), (45, .iconst (-1), 46, 0), (46, .ireturn, 47, 0), (47, .aload_n 0, 48, 0), (48, .iconst 0, 49, 0), (49, .bipush 9, 51, 0), (51, .iconst (-1), 52, 0), (52, .invokevirtual 87, 55, 0), (55, .ireturn, 56, 0), (56, .aload_n 0, 57, 0), (57, .iconst 0, 58, 0), (58, .bipush 7, 60, 0), (60, .iconst (-1), 61, 0), (61, .invokevirtual 87, 64, 0), (64, .ireturn, 65, 0), (65, .iconst 0, 66, 0), (66, .ireturn, 67, 0)]
def sw_pa_takeDetail : List (Nat × List (Int32 × Nat) × Nat) := [(1, [(2, 28), (3, 47), (4, 56)], 65)]
set_option maxRecDepth 100000 in
theorem te_pa_takeDetail : ∀ q ∈ tb_pa_takeDetail, gk_eok (gk_M 67).2.1 q = true := by decide +kernel
set_option maxRecDepth 100000 in
theorem tx_pa_takeDetail (oG : List (Nat × gk_G)) : ∀ q ∈ tb_pa_takeDetail, gk_xok "DryPlaces$Parser" pl_pa (1, sw_pa_takeDetail, oG) q := by
  have h : tb_pa_takeDetail.all (fun q => gk_xokb "DryPlaces$Parser" pl_pa sw_pa_takeDetail q) = true := by decide +kernel
  exact fun q hq => gk_xok_of (List.all_eq_true.mp h q hq)
theorem ok_pa_takeDetail (oG : List (Nat × gk_G)) : gk_ok gk_M 67 tb_pa_takeDetail pl_pa (1, sw_pa_takeDetail, oG) := ⟨te_pa_takeDetail, pk_pa, tx_pa_takeDetail oG, rfl⟩
def tb_pa_readLaw : gk_T := [(0, .aload_n 0, 1, 0), (1, .getfield 12, 4, 0), (4, .getfield 119, 7, 0), (7, .aload_n 0, 8, 0), (8, .getfield 48, 11, 0), (11, .bipush 100, 13, 0), (13, .isub, 14, 0), (14, .invokevirtual 123, 17, 0), (17, .aload_n 0, 18, 0), (18, .invokevirtual 77, 21, 0), (21, .aload_n 0, 22, 0), (22, .invokevirtual 128, 25, 0), (25, .ifCond .ne 5, 28, 30), (28, .iconst 0, 29, 0), (29, .ireturn, 30, 0), (30, .aload_n 0, 31, 0), (31, .getfield 12, 34, 0), (34, .getfield 119, 37, 0), (37, .invokevirtual 131, 40, 0), (40, .aload_n 0, 41, 0), (41, .getfield 48, 44, 0), (44, .bipush 103, 46, 0), (46, .if_icmp .ne 17, 49, 63), (49, .aload_n 0, 50, 0), (50, .invokevirtual 77, 53, 0), (53, .aload_n 0, 54, 0), (54, .iconst 0, 55, 0), (55, .invokevirtual 134, 58, 0), (58, .ifCond .ne 5, 61, 63), (61, .iconst 0, 62, 0), (62, .ireturn, 63, 0), (63, .aload_n 0, 64, 0), (64, .bipush 59, 66, 0), (66, .invokevirtual 94, 69, 0), (69, .ifCond .ne 5, 72, 74), (72, .iconst 0, 73, 0), (73, .ireturn, 74, 0), (74, .aload_n 0, 75, 0), (75, .getfield 12, 78, 0), (78, .getfield 119, 81, 0), (81, .invokevirtual 137, 84, 0), (84, .iconst 1, 85, 0), (85, .ireturn, 86, 0)]
def sw_pa_readLaw : List (Nat × List (Int32 × Nat) × Nat) := []
set_option maxRecDepth 100000 in
theorem te_pa_readLaw : ∀ q ∈ tb_pa_readLaw, gk_eok (gk_M 68).2.1 q = true := by decide +kernel
set_option maxRecDepth 100000 in
theorem tx_pa_readLaw (oG : List (Nat × gk_G)) : ∀ q ∈ tb_pa_readLaw, gk_xok "DryPlaces$Parser" pl_pa (3, sw_pa_readLaw, oG) q := by
  have h : tb_pa_readLaw.all (fun q => gk_xokb "DryPlaces$Parser" pl_pa sw_pa_readLaw q) = true := by decide +kernel
  exact fun q hq => gk_xok_of (List.all_eq_true.mp h q hq)
theorem ok_pa_readLaw (oG : List (Nat × gk_G)) : gk_ok gk_M 68 tb_pa_readLaw pl_pa (3, sw_pa_readLaw, oG) := ⟨te_pa_readLaw, pk_pa, tx_pa_readLaw oG, rfl⟩
def tb_pa_readCondition : gk_T := [(0, .aload_n 0, 1, 0), (1, .iload_n 1, 2, 0), (2, .invokevirtual 140, 5, 0), (5, .ifCond .ne 5, 8, 10), (8, .iconst 0, 9, 0), (9, .ireturn, 10, 0), (10, .iconst (-1), 11, 0), (11, .istore_n 2, 12, 0), (12, .iconst 0, 13, 0), (13, .istore_n 3, 14, 0), (14, .iload_n 3, 15, 0), (15, .sipush 400, 18, 0), (18, .if_icmp .ge 88, 21, 106), (21, .aload_n 0, 22, 0), (22, .getfield 48, 25, 0), (25, .bipush 104, 27, 0), (27, .if_icmp .eq 12, 30, 39), (30, .aload_n 0, 31, 0), (31, .getfield 48, 34, 0), (34, .bipush 105, 36, 0), (36, .if_icmp .ne 70, 39, 106), (39, .aload_n 0, 40, 0), (40, .getfield 48, 43, 0), (43, .bipush 105, 45, 0), (45, .if_icmp .ne 7, 48, 52), (48, .iconst 1, 49, 0), (49, .goto 4, 52, 53), (52, .iconst 0, 53, 0), (53, .istore 4, 55, 0), (55, .iload 4, 57, 0), (57, .ifCond .ne 11, 60, 68), (60, .aload_n 0, 61, 0), (61, .iload_n 2, 62, 0), (62, .invokevirtual 143, 65, 0), (65, .bipush 11, 67, 0), (67, .istore_n 2, 68, 0), (68, .aload_n 0, 69, 0), (69, .invokevirtual 77, 72, 0), (72, .aload_n 0, 73, 0), (73, .iload_n 1, 74, 0), (74, .invokevirtual 140, 77, 0), (77, .ifCond .ne 5, 80, 82), (80, .iconst 0, 81, 0), (81, .ireturn, 82, 0), (82, .iload 4, 84, 0), (84, .ifCond .eq 16, 87, 100), (87, .aload_n 0, 88, 0), (88, .getfield 12, 91, 0), (91, .getfield 119, 94, 0), (94, .bipush 10, 96, 0), (96, .iconst 0, 97, 0), (97, .invokevirtual 146, 100, 0), (100, .iinc 3 1, 103, 0), (103, .goto (-89), 106, 14), (106, .aload_n 0, 107, 0), (107, .iload_n 2, 108, 0), (108, .invokevirtual 143, 111, 0), (111, .iconst 1, 112, 0), (112, .ireturn, 113, 0)]
def sw_pa_readCondition : List (Nat × List (Int32 × Nat) × Nat) := []
set_option maxRecDepth 100000 in
theorem te_pa_readCondition : ∀ q ∈ tb_pa_readCondition, gk_eok (gk_M 69).2.1 q = true := by decide +kernel
set_option maxRecDepth 100000 in
theorem tx_pa_readCondition (oG : List (Nat × gk_G)) : ∀ q ∈ tb_pa_readCondition, gk_xok "DryPlaces$Parser" pl_pa (3, sw_pa_readCondition, oG) q := by
  have h : tb_pa_readCondition.all (fun q => gk_xokb "DryPlaces$Parser" pl_pa sw_pa_readCondition q) = true := by decide +kernel
  exact fun q hq => gk_xok_of (List.all_eq_true.mp h q hq)
theorem ok_pa_readCondition (oG : List (Nat × gk_G)) : gk_ok gk_M 69 tb_pa_readCondition pl_pa (3, sw_pa_readCondition, oG) := ⟨te_pa_readCondition, pk_pa, tx_pa_readCondition oG, rfl⟩
def tb_pa_readOne : gk_T := [(0, .aload_n 0, 1, 0), (1, .getfield 48, 4, 0), (4, .bipush 106, 6, 0), (6, .if_icmp .ne 7, 9, 13), (9, .iconst 1, 10, 0), (10, .goto 4, 13, 14), (13, .iconst 0, 14, 0), (14, .istore_n 2, 15, 0), (15, .iload_n 2, 16, 0), (16, .ifCond .ne 12, 19, 28), (19, .aload_n 0, 20, 0), (20, .getfield 48, 23, 0), (23, .bipush 40, 25, 0), (25, .if_icmp .ne 75, 28, 100), (28, .iload_n 1, 29, 0), (29, .bipush 8, 31, 0), (31, .if_icmp .lt 9, 34, 40), (34, .aload_n 0, 35, 0), (35, .iconst 3, 36, 0), (36, .invokevirtual 54, 39, 0), (39, .ireturn, 40, 0), (40, .aload_n 0, 41, 0), (41, .invokevirtual 77, 44, 0), (44, .iload_n 2, 45, 0), (45, .ifCond .ne 28, 48, 73), (48, .aload_n 0, 49, 0), (49, .iload_n 1, 50, 0), (50, .iconst 1, 51, 0), (51, .iadd, 52, 0), (52, .invokevirtual 134, 55, 0), (55, .ifCond .eq 16, 58, 71), (58, .aload_n 0, 59, 0), (59, .bipush 41, 61, 0), (61, .invokevirtual 94, 64, 0), (64, .ifCond .eq 7, 67, 71), (67, .iconst 1, 68, 0), (68, .goto 4, 71, 72), (71, .iconst 0, 72, 0), (72, .ireturn, 73, 0), (73, .aload_n 0, 74, 0), (74, .iload_n 1, 75, 0), (75, .iconst 1, 76, 0), (76, .iadd, 77, 0), (77, .invokevirtual 140, 80, 0), (80, .ifCond .ne 5, 83, 85), (83, .iconst 0, 84, 0), (84, .ireturn, 85, 0), (85, .aload_n 0, 86, 0), (86, .getfield 12, 89, 0), (89, .getfield 119, 92, 0), (92, .bipush 9, 94, 0), (94, .iconst 0, 95, 0), (95, .invokevirtual 146, 98, 0), (98, .iconst 1, 99, 0), (99, .ireturn, 100, 0), (100, .aload_n 0, 101, 0), (101, .invokevirtual 128, 104, 0), (104, .ifCond .ne 5, 107, 109), (107, .iconst 0, 108, 0), (108, .ireturn, 109, 0), (109, .aload_n 0, 110, 0), (110, .invokevirtual 149, 113, 0), (113, .istore_n 3, 114, 0), (114, .iload_n 3, 115, 0), (115, .iconst (-1), 116, 0), (116, .if_icmp .ne 9, 119, 125), (119, .aload_n 0, 120, 0), (120, .iconst 1, 121, 0), (121, .invokevirtual 54, 124, 0), (124, .ireturn, 125, 0), (125, .aload_n 0, 126, 0), (126, .invokevirtual 77, 129, 0), (129, .aload_n 0, 130, 0), (130, .invokevirtual 128, 133, 0), (133, .ifCond .ne 5, 136, 138), (136, .iconst 0, 137, 0), (137, .ireturn, 138, 0), (138, .aload_n 0, 139, 0), (139, .getfield 12, 142, 0), (142, .getfield 119, 145, 0), (145, .iload_n 3, 146, 0), (146, .iconst 0, 147, 0), (147, .invokevirtual 146, 150, 0), (150, .iconst 1, 151, 0), (151, .ireturn, 152, 0)]
def sw_pa_readOne : List (Nat × List (Int32 × Nat) × Nat) := []
set_option maxRecDepth 100000 in
theorem te_pa_readOne : ∀ q ∈ tb_pa_readOne, gk_eok (gk_M 70).2.1 q = true := by decide +kernel
set_option maxRecDepth 100000 in
theorem tx_pa_readOne (oG : List (Nat × gk_G)) : ∀ q ∈ tb_pa_readOne, gk_xok "DryPlaces$Parser" pl_pa (3, sw_pa_readOne, oG) q := by
  have h : tb_pa_readOne.all (fun q => gk_xokb "DryPlaces$Parser" pl_pa sw_pa_readOne q) = true := by decide +kernel
  exact fun q hq => gk_xok_of (List.all_eq_true.mp h q hq)
theorem ok_pa_readOne (oG : List (Nat × gk_G)) : gk_ok gk_M 70 tb_pa_readOne pl_pa (3, sw_pa_readOne, oG) := ⟨te_pa_readOne, pk_pa, tx_pa_readOne oG, rfl⟩
def tb_pa_comparison : gk_T := [(0, .aload_n 0, 1, 0), (1, .getfield 48, 4, 0), (4, .tableswitch 37 60 62 #[28, 31, 34], 32, 0), (32, .bipush 6, 34, 0), (34, .ireturn, 35, 0), (35, .bipush 7, 37, 0), (37, .ireturn, 38, 0), (38, .bipush 8, 40, 0), (40, .ireturn, 41, 0), (41, .iconst (-1), 42, 0), (42, .ireturn, 43, 0)]
def sw_pa_comparison : List (Nat × List (Int32 × Nat) × Nat) := [(4, [(60, 32), (61, 35), (62, 38)], 41)]
set_option maxRecDepth 100000 in
theorem te_pa_comparison : ∀ q ∈ tb_pa_comparison, gk_eok (gk_M 71).2.1 q = true := by decide +kernel
set_option maxRecDepth 100000 in
theorem tx_pa_comparison (oG : List (Nat × gk_G)) : ∀ q ∈ tb_pa_comparison, gk_xok "DryPlaces$Parser" pl_pa (1, sw_pa_comparison, oG) q := by
  have h : tb_pa_comparison.all (fun q => gk_xokb "DryPlaces$Parser" pl_pa sw_pa_comparison q) = true := by decide +kernel
  exact fun q hq => gk_xok_of (List.all_eq_true.mp h q hq)
theorem ok_pa_comparison (oG : List (Nat × gk_G)) : gk_ok gk_M 71 tb_pa_comparison pl_pa (1, sw_pa_comparison, oG) := ⟨te_pa_comparison, pk_pa, tx_pa_comparison oG, rfl⟩
def tb_pa_readSum : gk_T := [(0, .aload_n 0, 1, 0), (1, .invokevirtual 152, 4, 0), (4, .ifCond .ne 5, 7, 9), (7, .iconst 0, 8, 0), (8, .ireturn, 9, 0), (9, .iconst (-1), 10, 0), (10, .istore_n 1, 11, 0), (11, .iconst 0, 12, 0), (12, .istore_n 2, 13, 0), (13, .iload_n 2, 14, 0), (14, .sipush 400, 17, 0), (17, .if_icmp .ge 116, 20, 133), (20, .aload_n 0, 21, 0), (21, .invokevirtual 155, 24, 0), (24, .ifCond .eq 109, 27, 133), (27, .aload_n 0, 28, 0), (28, .getfield 48, 31, 0), (31, .istore_n 3, 32, 0), (32, .aload_n 0, 33, 0), (33, .invokevirtual 77, 36, 0), (36, .iload_n 3, 37, 0), (37, .bipush 47, 39, 0), (39, .if_icmp .ne 38, 42, 77), (42, .aload_n 0, 43, 0), (43, .iconst 1, 44, 0), (44, .sipush 9999, 47, 0), (47, .iconst (-1), 48, 0), (48, .invokevirtual 87, 51, 0), (51, .istore 4, 53, 0), (53, .iload 4, 55, 0), (55, .iconst (-1), 56, 0), (56, .if_icmp .ne 5, 59, 61), (59, .iconst 0, 60, 0), (60, .ireturn, 61, 0), (61, .aload_n 0, 62, 0), (62, .getfield 12, 65, 0), (65, .getfield 119, 68, 0), (68, .iconst 5, 69, 0), (69, .iload 4, 71, 0), (71, .invokevirtual 146, 74, 0), (74, .goto 53, 77, 127), (77, .iload_n 3, 78, 0), (78, .bipush 42, 80, 0), (80, .if_icmp .eq 20, 83, 100), (83, .aload_n 0, 84, 0), (84, .iload_n 1, 85, 0), (85, .invokevirtual 143, 88, 0), (88, .iload_n 3, 89, 0), (89, .bipush 43, 91, 0), (91, .if_icmp .ne 7, 94, 98), (94, .iconst 2, 95, 0), (95, .goto 4, 98, 99), (98, .iconst 3, 99, 0), (99, .istore_n 1, 100, 0), (100, .aload_n 0, 101, 0), (101, .invokevirtual 152, 104, 0), (104, .ifCond .ne 5, 107, 109), (107, .iconst 0, 108, 0), (108, .ireturn, 109, 0), (109, .iload_n 3, 110, 0), (110, .bipush 42, 112, 0), (112, .if_icmp .ne 15, 115, 127), (115, .aload_n 0, 116, 0), (116, .getfield 12, 119, 0), (119, .getfield 119, 122, 0), (122, .iconst 4, 123, 0), (123, .iconst 0, 124, 0), (124, .invokevirtual 146, 127, 0), (127, .iinc 2 1, 130, 0), (130, .goto (-117), 133, 13), (133, .aload_n 0, 134, 0), (134, .iload_n 1, 135, 0), (135, .invokevirtual 143, 138, 0), (138, .iconst 1, 139, 0), (139, .ireturn, 140, 0)]
def sw_pa_readSum : List (Nat × List (Int32 × Nat) × Nat) := []
set_option maxRecDepth 100000 in
theorem te_pa_readSum : ∀ q ∈ tb_pa_readSum, gk_eok (gk_M 72).2.1 q = true := by decide +kernel
set_option maxRecDepth 100000 in
theorem tx_pa_readSum (oG : List (Nat × gk_G)) : ∀ q ∈ tb_pa_readSum, gk_xok "DryPlaces$Parser" pl_pa (3, sw_pa_readSum, oG) q := by
  have h : tb_pa_readSum.all (fun q => gk_xokb "DryPlaces$Parser" pl_pa sw_pa_readSum q) = true := by decide +kernel
  exact fun q hq => gk_xok_of (List.all_eq_true.mp h q hq)
theorem ok_pa_readSum (oG : List (Nat × gk_G)) : gk_ok gk_M 72 tb_pa_readSum pl_pa (3, sw_pa_readSum, oG) := ⟨te_pa_readSum, pk_pa, tx_pa_readSum oG, rfl⟩
def tb_pa_addWaiting : gk_T := [(0, .iload_n 1, 1, 0), (1, .iconst (-1), 2, 0), (2, .if_icmp .eq 15, 5, 17), (5, .aload_n 0, 6, 0), (6, .getfield 12, 9, 0), (9, .getfield 119, 12, 0), (12, .iload_n 1, 13, 0), (13, .iconst 0, 14, 0), (14, .invokevirtual 146, 17, 0), (17, .return_, 18, 0)]
def sw_pa_addWaiting : List (Nat × List (Int32 × Nat) × Nat) := []
set_option maxRecDepth 100000 in
theorem te_pa_addWaiting : ∀ q ∈ tb_pa_addWaiting, gk_eok (gk_M 73).2.1 q = true := by decide +kernel
set_option maxRecDepth 100000 in
theorem tx_pa_addWaiting (oG : List (Nat × gk_G)) : ∀ q ∈ tb_pa_addWaiting, gk_xok "DryPlaces$Parser" pl_pa (0, sw_pa_addWaiting, oG) q := by
  have h : tb_pa_addWaiting.all (fun q => gk_xokb "DryPlaces$Parser" pl_pa sw_pa_addWaiting q) = true := by decide +kernel
  exact fun q hq => gk_xok_of (List.all_eq_true.mp h q hq)
theorem ok_pa_addWaiting (oG : List (Nat × gk_G)) : gk_ok gk_M 73 tb_pa_addWaiting pl_pa (0, sw_pa_addWaiting, oG) := ⟨te_pa_addWaiting, pk_pa, tx_pa_addWaiting oG, rfl⟩
def tb_pa_isReckoning : gk_T := [(0, .aload_n 0, 1, 0), (1, .getfield 48, 4, 0), (4, .bipush 43, 6, 0), (6, .if_icmp .eq 30, 9, 36), (9, .aload_n 0, 10, 0), (10, .getfield 48, 13, 0), (13, .bipush 45, 15, 0), (15, .if_icmp .eq 21, 18, 36), (18, .aload_n 0, 19, 0), (19, .getfield 48, 22, 0), (22, .bipush 42, 24, 0), (24, .if_icmp .eq 12, 27, 36), (27, .aload_n 0, 28, 0), (28, .getfield 48, 31, 0), (31, .bipush 47, 33, 0), (33, .if_icmp .ne 7, 36, 40), (36, .iconst 1, 37, 0), (37, .goto 4, 40, 41), (40, .iconst 0, 41, 0), (41, .ireturn, 42, 0)]
def sw_pa_isReckoning : List (Nat × List (Int32 × Nat) × Nat) := []
set_option maxRecDepth 100000 in
theorem te_pa_isReckoning : ∀ q ∈ tb_pa_isReckoning, gk_eok (gk_M 74).2.1 q = true := by decide +kernel
set_option maxRecDepth 100000 in
theorem tx_pa_isReckoning (oG : List (Nat × gk_G)) : ∀ q ∈ tb_pa_isReckoning, gk_xok "DryPlaces$Parser" pl_pa (3, sw_pa_isReckoning, oG) q := by
  have h : tb_pa_isReckoning.all (fun q => gk_xokb "DryPlaces$Parser" pl_pa sw_pa_isReckoning q) = true := by decide +kernel
  exact fun q hq => gk_xok_of (List.all_eq_true.mp h q hq)
theorem ok_pa_isReckoning (oG : List (Nat × gk_G)) : gk_ok gk_M 74 tb_pa_isReckoning pl_pa (3, sw_pa_isReckoning, oG) := ⟨te_pa_isReckoning, pk_pa, tx_pa_isReckoning oG, rfl⟩
def tb_pa_readUnit : gk_T := [(0, .aload_n 0, 1, 0), (1, .getfield 48, 4, 0), (4, .iconst 1, 5, 0), (5, .if_icmp .ne 29, 8, 34), (8, .aload_n 0, 9, 0), (9, .getfield 12, 12, 0), (12, .getfield 119, 15, 0), (15, .iconst 0, 16, 0), (16, .aload_n 0, 17, 0), (17, .getfield 22, 20, 0), (20, .getfield 80, 23, 0), (23, .aload_n 0, 24, 0), (24, .getfield 41, 27, 0), (27, .iaload, 28, 0), (28, .invokevirtual 146, 31, 0), (31, .goto 48, 34, 79), (34, .aload_n 0, 35, 0), (35, .getfield 48, 38, 0), (38, .bipush 107, 40, 0), (40, .if_icmp .lt 33, 43, 73), (43, .aload_n 0, 44, 0), (44, .getfield 48, 47, 0), (47, .bipush 115, 49, 0), (49, .if_icmp .gt 24, 52, 73), (52, .aload_n 0, 53, 0), (53, .getfield 12, 56, 0), (56, .getfield 119, 59, 0), (59, .iconst 1, 60, 0), (60, .aload_n 0, 61, 0), (61, .getfield 48, 64, 0), (64, .bipush 107, 66, 0), (66, .isub, 67, 0), (67, .invokevirtual 146, 70, 0), (70, .goto 9, 73, 79), (73, .aload_n 0, 74, 0), (74, .iconst 1, 75, 0), (75, .invokevirtual 54, 78, 0), (78, .ireturn, 79, 0), (79, .aload_n 0, 80, 0), (80, .invokevirtual 77, 83, 0), (83, .iconst 1, 84, 0), (84, .ireturn, 85, 0)]
def sw_pa_readUnit : List (Nat × List (Int32 × Nat) × Nat) := []
set_option maxRecDepth 100000 in
theorem te_pa_readUnit : ∀ q ∈ tb_pa_readUnit, gk_eok (gk_M 75).2.1 q = true := by decide +kernel
set_option maxRecDepth 100000 in
theorem tx_pa_readUnit (oG : List (Nat × gk_G)) : ∀ q ∈ tb_pa_readUnit, gk_xok "DryPlaces$Parser" pl_pa (3, sw_pa_readUnit, oG) q := by
  have h : tb_pa_readUnit.all (fun q => gk_xokb "DryPlaces$Parser" pl_pa sw_pa_readUnit q) = true := by decide +kernel
  exact fun q hq => gk_xok_of (List.all_eq_true.mp h q hq)
theorem ok_pa_readUnit (oG : List (Nat × gk_G)) : gk_ok gk_M 75 tb_pa_readUnit pl_pa (3, sw_pa_readUnit, oG) := ⟨te_pa_readUnit, pk_pa, tx_pa_readUnit oG, rfl⟩
def tb_ta_init : gk_T := [(0, .aload_n 0, 1, 0), (1, .invokespecial 3, 4, 0), (4, .aload_n 0, 5, 0), (5, .sipush 400, 8, 0), (8, .newarray .char, 10, 0), (10, .putfield 9, 13, 0), (13, .aload_n 0, 14, 0), (14, .sipush 401, 17, 0), (17, .newarray .int, 19, 0), (19, .putfield 15, 22, 0), (22, .aload_n 0, 23, 0), (23, .sipush 401, 26, 0), (26, .newarray .int, 28, 0), (28, .putfield 19, 31, 0), (31, .aload_n 0, 32, 0), (32, .sipush 401, 35, 0), (35, .newarray .int, 37, 0), (37, .putfield 22, 40, 0), (40, .return_, 41, 0)]
def sw_ta_init : List (Nat × List (Int32 × Nat) × Nat) := []
set_option maxRecDepth 100000 in
theorem te_ta_init : ∀ q ∈ tb_ta_init, gk_eok (gk_M 80).2.1 q = true := by decide +kernel
set_option maxRecDepth 100000 in
theorem tx_ta_init (oG : List (Nat × gk_G)) : ∀ q ∈ tb_ta_init, gk_xok "DryPlaces$Tape" pl_ta (0, sw_ta_init, oG) q := by
  have h : tb_ta_init.all (fun q => gk_xokb "DryPlaces$Tape" pl_ta sw_ta_init q) = true := by decide +kernel
  exact fun q hq => gk_xok_of (List.all_eq_true.mp h q hq)
theorem ok_ta_init (oG : List (Nat × gk_G)) : gk_ok gk_M 80 tb_ta_init pl_ta (0, sw_ta_init, oG) := ⟨te_ta_init, pk_ta, tx_ta_init oG, rfl⟩
def tb_ta_hasSpaceForFive : gk_T := [(0, .aload_n 0, 1, 0), (1, .getfield 25, 4, 0), (4, .bipush 20, 6, 0), (6, .iadd, 7, 0), (7, .sipush 400, 10, 0), (10, .if_icmp .gt 7, 13, 17), (13, .iconst 1, 14, 0), (14, .goto 4, 17, 18), (17, .iconst 0, 18, 0), (18, .ireturn, 19, 0)]
def sw_ta_hasSpaceForFive : List (Nat × List (Int32 × Nat) × Nat) := []
set_option maxRecDepth 100000 in
theorem te_ta_hasSpaceForFive : ∀ q ∈ tb_ta_hasSpaceForFive, gk_eok (gk_M 81).2.1 q = true := by decide +kernel
set_option maxRecDepth 100000 in
theorem tx_ta_hasSpaceForFive (oG : List (Nat × gk_G)) : ∀ q ∈ tb_ta_hasSpaceForFive, gk_xok "DryPlaces$Tape" pl_ta (3, sw_ta_hasSpaceForFive, oG) q := by
  have h : tb_ta_hasSpaceForFive.all (fun q => gk_xokb "DryPlaces$Tape" pl_ta sw_ta_hasSpaceForFive q) = true := by decide +kernel
  exact fun q hq => gk_xok_of (List.all_eq_true.mp h q hq)
theorem ok_ta_hasSpaceForFive (oG : List (Nat × gk_G)) : gk_ok gk_M 81 tb_ta_hasSpaceForFive pl_ta (3, sw_ta_hasSpaceForFive, oG) := ⟨te_ta_hasSpaceForFive, pk_ta, tx_ta_hasSpaceForFive oG, rfl⟩
def tb_ta_append : gk_T := [(0, .bipush 24, 2, 0), (2, .istore_n 2, 3, 0), (3, .iload_n 2, 4, 0), (4, .ifCond .lt 46, 7, 50), (7, .aload_n 0, 8, 0), (8, .getfield 25, 11, 0), (11, .sipush 400, 14, 0), (14, .if_icmp .ge 36, 17, 50), (17, .aload_n 0, 18, 0), (18, .getfield 9, 21, 0), (21, .aload_n 0, 22, 0), (22, .getfield 25, 25, 0), (25, .iload_n 1, 26, 0), (26, .iload_n 2, 27, 0), (27, .iushr, 28, 0), (28, .sipush 255, 31, 0), (31, .iand, 32, 0), (32, .i2c, 33, 0), (33, .castore, 34, 0), (34, .aload_n 0, 35, 0), (35, .dup, 36, 0), (36, .getfield 25, 39, 0), (39, .iconst 1, 40, 0), (40, .iadd, 41, 0), (41, .putfield 25, 44, 0), (44, .iinc 2 (-8), 47, 0), (47, .goto (-44), 50, 3), (50, .return_, 51, 0)]
def sw_ta_append : List (Nat × List (Int32 × Nat) × Nat) := []
set_option maxRecDepth 100000 in
theorem te_ta_append : ∀ q ∈ tb_ta_append, gk_eok (gk_M 82).2.1 q = true := by decide +kernel
set_option maxRecDepth 100000 in
theorem tx_ta_append (oG : List (Nat × gk_G)) : ∀ q ∈ tb_ta_append, gk_xok "DryPlaces$Tape" pl_ta (0, sw_ta_append, oG) q := by
  have h : tb_ta_append.all (fun q => gk_xokb "DryPlaces$Tape" pl_ta sw_ta_append q) = true := by decide +kernel
  exact fun q hq => gk_xok_of (List.all_eq_true.mp h q hq)
theorem ok_ta_append (oG : List (Nat × gk_G)) : gk_ok gk_M 82 tb_ta_append pl_ta (0, sw_ta_append, oG) := ⟨te_ta_append, pk_ta, tx_ta_append oG, rfl⟩
def tb_ta_cutUp : gk_T := [(0, .aload_n 0, 1, 0), (1, .iconst 0, 2, 0), (2, .putfield 29, 5, 0), (5, .iconst 0, 6, 0), (6, .istore_n 1, 7, 0), (7, .aload_n 0, 8, 0), (8, .invokevirtual 32, 11, 0), (11, .aload_n 0, 12, 0), (12, .getfield 29, 15, 0), (15, .aload_n 0, 16, 0), (16, .getfield 25, 19, 0), (19, .if_icmp .ge 121, 22, 140), (22, .iload_n 1, 23, 0), (23, .sipush 400, 26, 0), (26, .if_icmp .ge 114, 29, 140), (29, .aload_n 0, 30, 0), (30, .getfield 22, 33, 0), (33, .iload_n 1, 34, 0), (34, .aload_n 0, 35, 0), (35, .getfield 29, 38, 0), (38, .iastore, 39, 0), (39, .aload_n 0, 40, 0), (40, .getfield 19, 43, 0), (43, .iload_n 1, 44, 0), (44, .iconst 0, 45, 0), (45, .iastore, 46, 0), (46, .aload_n 0, 47, 0), (47, .aload_n 0, 48, 0), (48, .getfield 29, 51, 0), (51, .invokevirtual 35, 54, 0), (54, .ifCond .eq 11, 57, 65), (57, .aload_n 0, 58, 0), (58, .iload_n 1, 59, 0), (59, .invokevirtual 39, 62, 0), (62, .goto 68, 65, 130), (65, .aload_n 0, 66, 0), (66, .aload_n 0, 67, 0), (67, .getfield 29, 70, 0), (70, .invokevirtual 43, 73, 0), (73, .ifCond .eq 11, 76, 84), (76, .aload_n 0, 77, 0), (77, .iload_n 1, 78, 0), (78, .invokevirtual 46, 81, 0), (81, .goto 49, 84, 130), (84, .aload_n 0, 85, 0), (85, .getfield 15, 88, 0), (88, .iload_n 1, 89, 0), (89, .ldc 49, 91, 0), (91, .aload_n 0, 92, 0), (92, .getfield 9, 95, 0), (95, .aload_n 0, 96, 0), (96, .getfield 29, 99, 0), (99, .caload, 100, 0), (100, .invokevirtual 51, 103, 0), (103, .ifCond .lt 15, 106, 118), (106, .aload_n 0, 107, 0), (107, .getfield 9, 110, 0), (110, .aload_n 0, 111, 0), (111, .getfield 29, 114, 0), (114, .caload, 115, 0), (115, .goto 4, 118, 119), (118, .iconst 2, 119, 0), (119, .iastore, 120, 0), (120, .aload_n 0, 121, 0), (121, .dup, 122, 0), (122, .getfield 29, 125, 0), (125, .iconst 1, 126, 0), (126, .iadd, 127, 0), (127, .putfield 29, 130, 0), (130, .iinc 1 1, 133, 0), (133, .aload_n 0, 134, 0), (134, .invokevirtual 32, 137, 0), (137, .goto (-126), 140, 11), (140, .aload_n 0, 141, 0), (141, .getfield 15, 144, 0), (144, .iload_n 1, 145, 0), (145, .iconst 0, 146, 0), (146, .iastore, 147, 0), (147, .aload_n 0, 148, 0), (148, .getfield 22, 151, 0), (151, .iload_n 1, 152, 0), (152, .aload_n 0, 153, 0), (153, .getfield 25, 156, 0), (156, .iastore, 157, 0), (157, .return_, 158, 0)]
def sw_ta_cutUp : List (Nat × List (Int32 × Nat) × Nat) := []
set_option maxRecDepth 100000 in
theorem te_ta_cutUp : ∀ q ∈ tb_ta_cutUp, gk_eok (gk_M 83).2.1 q = true := by decide +kernel
set_option maxRecDepth 100000 in
theorem tx_ta_cutUp (oG : List (Nat × gk_G)) : ∀ q ∈ tb_ta_cutUp, gk_xok "DryPlaces$Tape" pl_ta (0, sw_ta_cutUp, oG) q := by
  have h : tb_ta_cutUp.all (fun q => gk_xokb "DryPlaces$Tape" pl_ta sw_ta_cutUp q) = true := by decide +kernel
  exact fun q hq => gk_xok_of (List.all_eq_true.mp h q hq)
theorem ok_ta_cutUp (oG : List (Nat × gk_G)) : gk_ok gk_M 83 tb_ta_cutUp pl_ta (0, sw_ta_cutUp, oG) := ⟨te_ta_cutUp, pk_ta, tx_ta_cutUp oG, rfl⟩
def tb_ta_skipBlanks : gk_T := [(0, .aload_n 0, 1, 0), (1, .getfield 29, 4, 0), (4, .aload_n 0, 5, 0), (5, .getfield 25, 8, 0), (8, .if_icmp .ge 44, 11, 52), (11, .aload_n 0, 12, 0), (12, .getfield 9, 15, 0), (15, .aload_n 0, 16, 0), (16, .getfield 29, 19, 0), (19, .caload, 20, 0), (20, .bipush 32, 22, 0), (22, .if_icmp .eq 17, 25, 39), (25, .aload_n 0, 26, 0), (26, .getfield 9, 29, 0), (29, .aload_n 0, 30, 0), (30, .getfield 29, 33, 0), (33, .caload, 34, 0), (34, .bipush 10, 36, 0), (36, .if_icmp .ne 16, 39, 52), (39, .aload_n 0, 40, 0), (40, .dup, 41, 0), (41, .getfield 29, 44, 0), (44, .iconst 1, 45, 0), (45, .iadd, 46, 0), (46, .putfield 29, 49, 0), (49, .goto (-49), 52, 0), (52, .return_, 53, 0)]
def sw_ta_skipBlanks : List (Nat × List (Int32 × Nat) × Nat) := []
set_option maxRecDepth 100000 in
theorem te_ta_skipBlanks : ∀ q ∈ tb_ta_skipBlanks, gk_eok (gk_M 84).2.1 q = true := by decide +kernel
set_option maxRecDepth 100000 in
theorem tx_ta_skipBlanks (oG : List (Nat × gk_G)) : ∀ q ∈ tb_ta_skipBlanks, gk_xok "DryPlaces$Tape" pl_ta (0, sw_ta_skipBlanks, oG) q := by
  have h : tb_ta_skipBlanks.all (fun q => gk_xokb "DryPlaces$Tape" pl_ta sw_ta_skipBlanks q) = true := by decide +kernel
  exact fun q hq => gk_xok_of (List.all_eq_true.mp h q hq)
theorem ok_ta_skipBlanks (oG : List (Nat × gk_G)) : gk_ok gk_M 84 tb_ta_skipBlanks pl_ta (0, sw_ta_skipBlanks, oG) := ⟨te_ta_skipBlanks, pk_ta, tx_ta_skipBlanks oG, rfl⟩
def tb_ta_readWord : gk_T := [(0, .aload_n 0, 1, 0), (1, .getfield 29, 4, 0), (4, .istore_n 2, 5, 0), (5, .aload_n 0, 6, 0), (6, .getfield 29, 9, 0), (9, .aload_n 0, 10, 0), (10, .getfield 25, 13, 0), (13, .if_icmp .ge 27, 16, 40), (16, .aload_n 0, 17, 0), (17, .aload_n 0, 18, 0), (18, .getfield 29, 21, 0), (21, .invokevirtual 35, 24, 0), (24, .ifCond .eq 16, 27, 40), (27, .aload_n 0, 28, 0), (28, .dup, 29, 0), (29, .getfield 29, 32, 0), (32, .iconst 1, 33, 0), (33, .iadd, 34, 0), (34, .putfield 29, 37, 0), (37, .goto (-32), 40, 5), (40, .aload_n 0, 41, 0), (41, .getfield 15, 44, 0), (44, .iload_n 1, 45, 0), (45, .iconst 2, 46, 0), (46, .iastore, 47, 0), (47, .bipush 100, 49, 0), (49, .istore_n 3, 50, 0), (50, .iconst 0, 51, 0), (51, .istore 4, 53, 0), (53, .iconst 0, 54, 0), (54, .istore 5, 56, 0), (56, .iload 5, 58, 0), (58, .ldc 57, 60, 0), (60, .invokevirtual 59, 63, 0), (63, .if_icmp .ge 63, 66, 126), (66, .ldc 57, 68, 0), (68, .iload 5, 70, 0), (70, .invokevirtual 62, 73, 0), (73, .bipush 32, 75, 0), (75, .if_icmp .ne 45, 78, 120), (78, .iload 5, 80, 0), (80, .iload 4, 82, 0), (82, .isub, 83, 0), (83, .aload_n 0, 84, 0), (84, .getfield 29, 87, 0), (87, .iload_n 2, 88, 0), (88, .isub, 89, 0), (89, .if_icmp .ne 22, 92, 111), (92, .aload_n 0, 93, 0), (93, .iload 4, 95, 0), (95, .iload 5, 97, 0), (97, .iload_n 2, 98, 0), (98, .invokevirtual 66, 101, 0), (101, .ifCond .eq 10, 104, 111), (104, .aload_n 0, 105, 0), (105, .getfield 15, 108, 0), (108, .iload_n 1, 109, 0), (109, .iload_n 3, 110, 0), (110, .iastore, 111, 0), (111, .iinc 3 1, 114, 0), (114, .iload 5, 116, 0), (116, .iconst 1, 117, 0), (117, .iadd, 118, 0), (118, .istore 4, 120, 0), (120, .iinc 5 1, 123, 0), (123, .goto (-67), 126, 56), (126, .return_, 127, 0)]
def sw_ta_readWord : List (Nat × List (Int32 × Nat) × Nat) := []
set_option maxRecDepth 100000 in
theorem te_ta_readWord : ∀ q ∈ tb_ta_readWord, gk_eok (gk_M 85).2.1 q = true := by decide +kernel
set_option maxRecDepth 100000 in
theorem tx_ta_readWord (oG : List (Nat × gk_G)) : ∀ q ∈ tb_ta_readWord, gk_xok "DryPlaces$Tape" pl_ta (0, sw_ta_readWord, oG) q := by
  have h : tb_ta_readWord.all (fun q => gk_xokb "DryPlaces$Tape" pl_ta sw_ta_readWord q) = true := by decide +kernel
  exact fun q hq => gk_xok_of (List.all_eq_true.mp h q hq)
theorem ok_ta_readWord (oG : List (Nat × gk_G)) : gk_ok gk_M 85 tb_ta_readWord pl_ta (0, sw_ta_readWord, oG) := ⟨te_ta_readWord, pk_ta, tx_ta_readWord oG, rfl⟩
def tb_ta_isWordAt : gk_T := [(0, .iconst 0, 1, 0), (1, .istore 4, 3, 0), (3, .iload 4, 5, 0), (5, .iload_n 2, 6, 0), (6, .iload_n 1, 7, 0), (7, .isub, 8, 0), (8, .if_icmp .ge 32, 11, 40), (11, .ldc 57, 13, 0), (13, .iload_n 1, 14, 0), (14, .iload 4, 16, 0), (16, .iadd, 17, 0), (17, .invokevirtual 62, 20, 0), (20, .aload_n 0, 21, 0), (21, .getfield 9, 24, 0), (24, .iload_n 3, 25, 0), (25, .iload 4, 27, 0), (27, .iadd, 28, 0), (28, .caload, 29, 0), (29, .if_icmp .eq 5, 32, 34), (32, .iconst 0, 33, 0), (33, .ireturn, 34, 0), (34, .iinc 4 1, 37, 0), (37, .goto (-34), 40, 3), (40, .iconst 1, 41, 0), (41, .ireturn, 42, 0)]
def sw_ta_isWordAt : List (Nat × List (Int32 × Nat) × Nat) := []
set_option maxRecDepth 100000 in
theorem te_ta_isWordAt : ∀ q ∈ tb_ta_isWordAt, gk_eok (gk_M 86).2.1 q = true := by decide +kernel
set_option maxRecDepth 100000 in
theorem tx_ta_isWordAt (oG : List (Nat × gk_G)) : ∀ q ∈ tb_ta_isWordAt, gk_xok "DryPlaces$Tape" pl_ta (3, sw_ta_isWordAt, oG) q := by
  have h : tb_ta_isWordAt.all (fun q => gk_xokb "DryPlaces$Tape" pl_ta sw_ta_isWordAt q) = true := by decide +kernel
  exact fun q hq => gk_xok_of (List.all_eq_true.mp h q hq)
theorem ok_ta_isWordAt (oG : List (Nat × gk_G)) : gk_ok gk_M 86 tb_ta_isWordAt pl_ta (3, sw_ta_isWordAt, oG) := ⟨te_ta_isWordAt, pk_ta, tx_ta_isWordAt oG, rfl⟩
def tb_ta_readNumber : gk_T := [(0, .aload_n 0, 1, 0), (1, .getfield 29, 4, 0), (4, .istore_n 2, 5, 0), (5, .aload_n 0, 6, 0), (6, .getfield 29, 9, 0), (9, .aload_n 0, 10, 0), (10, .getfield 25, 13, 0), (13, .if_icmp .ge 55, 16, 68), (16, .aload_n 0, 17, 0), (17, .aload_n 0, 18, 0), (18, .getfield 29, 21, 0), (21, .invokevirtual 43, 24, 0), (24, .ifCond .eq 44, 27, 68), (27, .aload_n 0, 28, 0), (28, .getfield 19, 31, 0), (31, .iload_n 1, 32, 0), (32, .bipush 10, 34, 0), (34, .aload_n 0, 35, 0), (35, .getfield 19, 38, 0), (38, .iload_n 1, 39, 0), (39, .iaload, 40, 0), (40, .imul, 41, 0), (41, .aload_n 0, 42, 0), (42, .getfield 9, 45, 0), (45, .aload_n 0, 46, 0), (46, .getfield 29, 49, 0), (49, .caload, 50, 0), (50, .iadd, 51, 0), (51, .bipush 48, 53, 0), (53, .isub, 54, 0), (54, .iastore, 55, 0), (55, .aload_n 0, 56, 0), (56, .dup, 57, 0), (57, .getfield 29, 60, 0), (60, .iconst 1, 61, 0), (61, .iadd, 62, 0), (62, .putfield 29, 65, 0), (65, .goto (-60), 68, 5), (68, .aload_n 0, 69, 0), (69, .getfield 15, 72, 0), (72, .iload_n 1, 73, 0), (73, .aload_n 0, 74, 0), (74, .getfield 29, 77, 0), (77, .iload_n 2, 78, 0), (78, .isub, 79, 0), (79, .iconst 4, 80, 0), (80, .if_icmp .gt 7, 83, 87), (83, .iconst 1, 84, 0), (84, .goto 4, 87, 88), (87, .iconst 2, 88, 0), (88, .iastore, 89, 0), (89, .return_, 90, 0)]
def sw_ta_readNumber : List (Nat × List (Int32 × Nat) × Nat) := []
set_option maxRecDepth 100000 in
theorem te_ta_readNumber : ∀ q ∈ tb_ta_readNumber, gk_eok (gk_M 87).2.1 q = true := by decide +kernel
set_option maxRecDepth 100000 in
theorem tx_ta_readNumber (oG : List (Nat × gk_G)) : ∀ q ∈ tb_ta_readNumber, gk_xok "DryPlaces$Tape" pl_ta (0, sw_ta_readNumber, oG) q := by
  have h : tb_ta_readNumber.all (fun q => gk_xokb "DryPlaces$Tape" pl_ta sw_ta_readNumber q) = true := by decide +kernel
  exact fun q hq => gk_xok_of (List.all_eq_true.mp h q hq)
theorem ok_ta_readNumber (oG : List (Nat × gk_G)) : gk_ok gk_M 87 tb_ta_readNumber pl_ta (0, sw_ta_readNumber, oG) := ⟨te_ta_readNumber, pk_ta, tx_ta_readNumber oG, rfl⟩
def tb_ta_isLetter : gk_T := [(0, .aload_n 0, 1, 0), (1, .getfield 9, 4, 0), (4, .iload_n 1, 5, 0), (5, .caload, 6, 0), (6, .bipush 97, 8, 0), (8, .if_icmp .lt 14, 11, 22), (11, .aload_n 0, 12, 0), (12, .getfield 9, 15, 0), (15, .iload_n 1, 16, 0), (16, .caload, 17, 0), (17, .bipush 122, 19, 0), (19, .if_icmp .le 25, 22, 44), (22, .aload_n 0, 23, 0), (23, .getfield 9, 26, 0), (26, .iload_n 1, 27, 0), (27, .caload, 28, 0), (28, .bipush 65, 30, 0), (30, .if_icmp .lt 18, 33, 48), (33, .aload_n 0, 34, 0), (34, .getfield 9, 37, 0), (37, .iload_n 1, 38, 0), (38, .caload, 39, 0), (39, .bipush 90, 41, 0), (41, .if_icmp .gt 7, 44, 48), (44, .iconst 1, 45, 0), (45, .goto 4, 48, 49), (48, .iconst 0, 49, 0), (49, .ireturn, 50, 0)]
def sw_ta_isLetter : List (Nat × List (Int32 × Nat) × Nat) := []
set_option maxRecDepth 100000 in
theorem te_ta_isLetter : ∀ q ∈ tb_ta_isLetter, gk_eok (gk_M 88).2.1 q = true := by decide +kernel
set_option maxRecDepth 100000 in
theorem tx_ta_isLetter (oG : List (Nat × gk_G)) : ∀ q ∈ tb_ta_isLetter, gk_xok "DryPlaces$Tape" pl_ta (3, sw_ta_isLetter, oG) q := by
  have h : tb_ta_isLetter.all (fun q => gk_xokb "DryPlaces$Tape" pl_ta sw_ta_isLetter q) = true := by decide +kernel
  exact fun q hq => gk_xok_of (List.all_eq_true.mp h q hq)
theorem ok_ta_isLetter (oG : List (Nat × gk_G)) : gk_ok gk_M 88 tb_ta_isLetter pl_ta (3, sw_ta_isLetter, oG) := ⟨te_ta_isLetter, pk_ta, tx_ta_isLetter oG, rfl⟩
def tb_ta_isDigit : gk_T := [(0, .aload_n 0, 1, 0), (1, .getfield 9, 4, 0), (4, .iload_n 1, 5, 0), (5, .caload, 6, 0), (6, .bipush 48, 8, 0), (8, .if_icmp .lt 18, 11, 26), (11, .aload_n 0, 12, 0), (12, .getfield 9, 15, 0), (15, .iload_n 1, 16, 0), (16, .caload, 17, 0), (17, .bipush 57, 19, 0), (19, .if_icmp .gt 7, 22, 26), (22, .iconst 1, 23, 0), (23, .goto 4, 26, 27), (26, .iconst 0, 27, 0), (27, .ireturn, 28, 0)]
def sw_ta_isDigit : List (Nat × List (Int32 × Nat) × Nat) := []
set_option maxRecDepth 100000 in
theorem te_ta_isDigit : ∀ q ∈ tb_ta_isDigit, gk_eok (gk_M 89).2.1 q = true := by decide +kernel
set_option maxRecDepth 100000 in
theorem tx_ta_isDigit (oG : List (Nat × gk_G)) : ∀ q ∈ tb_ta_isDigit, gk_xok "DryPlaces$Tape" pl_ta (3, sw_ta_isDigit, oG) q := by
  have h : tb_ta_isDigit.all (fun q => gk_xokb "DryPlaces$Tape" pl_ta sw_ta_isDigit q) = true := by decide +kernel
  exact fun q hq => gk_xok_of (List.all_eq_true.mp h q hq)
theorem ok_ta_isDigit (oG : List (Nat × gk_G)) : gk_ok gk_M 89 tb_ta_isDigit pl_ta (3, sw_ta_isDigit, oG) := ⟨te_ta_isDigit, pk_ta, tx_ta_isDigit oG, rfl⟩
def tb_tx_init : gk_T := [(0, .aload_n 0, 1, 0), (1, .invokespecial 3, 4, 0), (4, .aload_n 0, 5, 0), (5, .new 9, 8, 0), (8, .dup, 9, 0), (9, .invokespecial 11, 12, 0), (12, .putfield 12, 15, 0), (15, .aload_n 0, 16, 0), (16, .iconst 4, 17, 0), (17, .newarray .int, 19, 0), (19, .putfield 18, 22, 0), (22, .aload_n 0, 23, 0), (23, .bipush 36, 25, 0), (25, .newarray .int, 27, 0), (27, .putfield 22, 30, 0), (30, .aload_n 0, 31, 0), (31, .bipush 64, 33, 0), (33, .newarray .int, 35, 0), (35, .putfield 25, 38, 0), (38, .aload_n 0, 39, 0), (39, .bipush 10, 41, 0), (41, .newarray .int, 43, 0), (43, .putfield 28, 46, 0), (46, .return_, 47, 0)]
def sw_tx_init : List (Nat × List (Int32 × Nat) × Nat) := []
set_option maxRecDepth 100000 in
theorem te_tx_init : ∀ q ∈ tb_tx_init, gk_eok (gk_M 100).2.1 q = true := by decide +kernel
set_option maxRecDepth 100000 in
theorem tx_tx_init (oG : List (Nat × gk_G)) : ∀ q ∈ tb_tx_init, gk_xok "DryPlaces$Texts" pl_tx (0, sw_tx_init, oG) q := by
  have h : tb_tx_init.all (fun q => gk_xokb "DryPlaces$Texts" pl_tx sw_tx_init q) = true := by decide +kernel
  exact fun q hq => gk_xok_of (List.all_eq_true.mp h q hq)
theorem ok_tx_init (oG : List (Nat × gk_G)) : gk_ok gk_M 100 tb_tx_init pl_tx (0, sw_tx_init, oG) := ⟨te_tx_init, pk_tx, tx_tx_init oG, rfl⟩
def tb_tx_count : gk_T := [(0, .iload_n 1, 1, 0), (1, .ifCond .ne 13, 4, 14), (4, .aload_n 0, 5, 0), (5, .getfield 12, 8, 0), (8, .getfield 31, 11, 0), (11, .goto 22, 14, 33), (14, .iload_n 1, 15, 0), (15, .ifCond .le 17, 18, 32), (18, .iload_n 1, 19, 0), (19, .iconst 4, 20, 0), (20, .if_icmp .ge 12, 23, 32), (23, .aload_n 0, 24, 0), (24, .getfield 18, 27, 0), (27, .iload_n 1, 28, 0), (28, .iaload, 29, 0), (29, .goto 4, 32, 33), (32, .iconst 0, 33, 0), (33, .ireturn, 34, 0)]
def sw_tx_count : List (Nat × List (Int32 × Nat) × Nat) := []
set_option maxRecDepth 100000 in
theorem te_tx_count : ∀ q ∈ tb_tx_count, gk_eok (gk_M 101).2.1 q = true := by decide +kernel
set_option maxRecDepth 100000 in
theorem tx_tx_count (oG : List (Nat × gk_G)) : ∀ q ∈ tb_tx_count, gk_xok "DryPlaces$Texts" pl_tx (1, sw_tx_count, oG) q := by
  have h : tb_tx_count.all (fun q => gk_xokb "DryPlaces$Texts" pl_tx sw_tx_count q) = true := by decide +kernel
  exact fun q hq => gk_xok_of (List.all_eq_true.mp h q hq)
theorem ok_tx_count (oG : List (Nat × gk_G)) : gk_ok gk_M 101 tb_tx_count pl_tx (1, sw_tx_count, oG) := ⟨te_tx_count, pk_tx, tx_tx_count oG, rfl⟩
def tb_tx_clearOne : gk_T := [(0, .iload_n 1, 1, 0), (1, .ifCond .lt 8, 4, 9), (4, .iload_n 1, 5, 0), (5, .iconst 4, 6, 0), (6, .if_icmp .lt 4, 9, 10), (9, .return_, 10, 0), (10, .aload_n 0, 11, 0), (11, .getfield 18, 14, 0), (14, .iload_n 1, 15, 0), (15, .iconst 0, 16, 0), (16, .iastore, 17, 0), (17, .iload_n 1, 18, 0), (18, .ifCond .ne 13, 21, 31), (21, .aload_n 0, 22, 0), (22, .getfield 12, 25, 0), (25, .invokevirtual 35, 28, 0), (28, .goto 32, 31, 60), (31, .iload_n 1, 32, 0), (32, .iconst 1, 33, 0), (33, .if_icmp .ne 14, 36, 47), (36, .aload_n 0, 37, 0), (37, .getfield 22, 40, 0), (40, .iconst 0, 41, 0), (41, .invokestatic 38, 44, 0), (44, .goto 16, 47, 60), (47, .iload_n 1, 48, 0), (48, .iconst 3, 49, 0), (49, .if_icmp .ne 11, 52, 60), (52, .aload_n 0, 53, 0), (53, .getfield 28, 56, 0), (56, .iconst 0, 57, 0), (57, .invokestatic 38, 60, 0), (60, .return_, 61, 0)]
def sw_tx_clearOne : List (Nat × List (Int32 × Nat) × Nat) := []
set_option maxRecDepth 100000 in
theorem te_tx_clearOne : ∀ q ∈ tb_tx_clearOne, gk_eok (gk_M 102).2.1 q = true := by decide +kernel
set_option maxRecDepth 100000 in
theorem tx_tx_clearOne (oG : List (Nat × gk_G)) : ∀ q ∈ tb_tx_clearOne, gk_xok "DryPlaces$Texts" pl_tx (0, sw_tx_clearOne, oG) q := by
  have h : tb_tx_clearOne.all (fun q => gk_xokb "DryPlaces$Texts" pl_tx sw_tx_clearOne q) = true := by decide +kernel
  exact fun q hq => gk_xok_of (List.all_eq_true.mp h q hq)
theorem ok_tx_clearOne (oG : List (Nat × gk_G)) : gk_ok gk_M 102 tb_tx_clearOne pl_tx (0, sw_tx_clearOne, oG) := ⟨te_tx_clearOne, pk_tx, tx_tx_clearOne oG, rfl⟩
def tb_tx_copyOne : gk_T := [(0, .iload_n 1, 1, 0), (1, .ifCond .lt 8, 4, 9), (4, .iload_n 1, 5, 0), (5, .iconst 4, 6, 0), (6, .if_icmp .lt 4, 9, 10), (9, .return_, 10, 0), (10, .aload_n 0, 11, 0), (11, .getfield 18, 14, 0), (14, .iload_n 1, 15, 0), (15, .aload_n 2, 16, 0), (16, .getfield 18, 19, 0), (19, .iload_n 1, 20, 0), (20, .iaload, 21, 0), (21, .iastore, 22, 0), (22, .iload_n 1, 23, 0), (23, .ifCond .ne 17, 26, 40), (26, .aload_n 0, 27, 0), (27, .getfield 12, 30, 0), (30, .aload_n 2, 31, 0), (31, .getfield 12, 34, 0), (34, .invokevirtual 44, 37, 0), (37, .goto 73, 40, 110), (40, .iload_n 1, 41, 0), (41, .iconst 1, 42, 0), (42, .if_icmp .ne 24, 45, 66), (45, .aload_n 2, 46, 0), (46, .getfield 22, 49, 0), (49, .iconst 0, 50, 0), (50, .aload_n 0, 51, 0), (51, .getfield 22, 54, 0), (54, .iconst 0, 55, 0), (55, .aload_n 0, 56, 0), (56, .getfield 22, 59, 0), (59, .arraylength, 60, 0), (60, .invokestatic 48, 63, 1), (63, .goto 47, 66, 110), (66, .iload_n 1, 67, 0), (67, .iconst 2, 68, 0), (68, .if_icmp .ne 24, 71, 92), (71, .aload_n 2, 72, 0), (72, .getfield 25, 75, 0), (75, .iconst 0, 76, 0), (76, .aload_n 0, 77, 0), (77, .getfield 25, 80, 0), (80, .iconst 0, 81, 0), (81, .aload_n 0, 82, 0), (82, .getfield 25, 85, 0), (85, .arraylength, 86, 0), (86, .invokestatic 48, 89, 1), (89, .goto 21, 92, 110), (92, .aload_n 2, 93, 0), (93, .getfield 28, 96, 0), (96, .iconst 0, 97, 0), (97, .aload_n 0, 98, 0), (98, .getfield 28, 101, 0), (101, .iconst 0, 102, 0), (102, .aload_n 0, 103, 0), (103, .getfield 28, 106, 0), (106, .arraylength, 107, 0), (107, .invokestatic 48, 110, 1), (110, .return_, 111, 0)]
def sw_tx_copyOne : List (Nat × List (Int32 × Nat) × Nat) := []
set_option maxRecDepth 100000 in
theorem te_tx_copyOne : ∀ q ∈ tb_tx_copyOne, gk_eok (gk_M 103).2.1 q = true := by decide +kernel
set_option maxRecDepth 100000 in
theorem tx_tx_copyOne (oG : List (Nat × gk_G)) : ∀ q ∈ tb_tx_copyOne, gk_xok "DryPlaces$Texts" pl_tx (0, sw_tx_copyOne, oG) q := by
  have h : tb_tx_copyOne.all (fun q => gk_xokb "DryPlaces$Texts" pl_tx sw_tx_copyOne q) = true := by decide +kernel
  exact fun q hq => gk_xok_of (List.all_eq_true.mp h q hq)
theorem ok_tx_copyOne (oG : List (Nat × gk_G)) : gk_ok gk_M 103 tb_tx_copyOne pl_tx (0, sw_tx_copyOne, oG) := ⟨te_tx_copyOne, pk_tx, tx_tx_copyOne oG, rfl⟩
def tb_tx_copyAll : gk_T := [(0, .iconst 0, 1, 0), (1, .istore_n 2, 2, 0), (2, .iload_n 2, 3, 0), (3, .iconst 4, 4, 0), (4, .if_icmp .ge 15, 7, 19), (7, .aload_n 0, 8, 0), (8, .iload_n 2, 9, 0), (9, .aload_n 1, 10, 0), (10, .invokevirtual 54, 13, 0), (13, .iinc 2 1, 16, 0), (16, .goto (-14), 19, 2), (19, .return_, 20, 0)]
def sw_tx_copyAll : List (Nat × List (Int32 × Nat) × Nat) := []
set_option maxRecDepth 100000 in
theorem te_tx_copyAll : ∀ q ∈ tb_tx_copyAll, gk_eok (gk_M 104).2.1 q = true := by decide +kernel
set_option maxRecDepth 100000 in
theorem tx_tx_copyAll (oG : List (Nat × gk_G)) : ∀ q ∈ tb_tx_copyAll, gk_xok "DryPlaces$Texts" pl_tx (0, sw_tx_copyAll, oG) q := by
  have h : tb_tx_copyAll.all (fun q => gk_xokb "DryPlaces$Texts" pl_tx sw_tx_copyAll q) = true := by decide +kernel
  exact fun q hq => gk_xok_of (List.all_eq_true.mp h q hq)
theorem ok_tx_copyAll (oG : List (Nat × gk_G)) : gk_ok gk_M 104 tb_tx_copyAll pl_tx (0, sw_tx_copyAll, oG) := ⟨te_tx_copyAll, pk_tx, tx_tx_copyAll oG, rfl⟩
def tb_tx_addPassage : gk_T := [(0, .aload_n 0, 1, 0), (1, .getfield 22, 4, 0), (4, .iload_n 1, 5, 0), (5, .bipush 6, 7, 0), (7, .imul, 8, 0), (8, .iload_n 2, 9, 0), (9, .iadd, 10, 0), (10, .iaload, 11, 0), (11, .istore 4, 13, 0), (13, .iload 4, 15, 0), (15, .ifCond .eq 9, 18, 24), (18, .iload_n 3, 19, 0), (19, .iload 4, 21, 0), (21, .if_icmp .ge 27, 24, 48), (24, .aload_n 0, 25, 0), (25, .getfield 22, 28, 0), (28, .iload_n 1, 29, 0), (29, .bipush 6, 31, 0), (31, .imul, 32, 0), (32, .iload_n 2, 33, 0), (33, .iadd, 34, 0), (34, .iload_n 3, 35, 0), (35, .iastore, 36, 0), (36, .aload_n 0, 37, 0), (37, .getfield 22, 40, 0), (40, .iload_n 2, 41, 0), (41, .bipush 6, 43, 0), (43, .imul, 44, 0), (44, .iload_n 1, 45, 0), (45, .iadd, 46, 0), (46, .iload_n 3, 47, 0), (47, .iastore, 48, 0), (48, .aload_n 0, 49, 0), (49, .getfield 18, 52, 0), (52, .iconst 1, 53, 0), (53, .dup2, 54, 0), (54, .iaload, 55, 0), (55, .iconst 1, 56, 0), (56, .iadd, 57, 0), (57, .iastore, 58, 0), (58, .return_, 59, 0)]
def sw_tx_addPassage : List (Nat × List (Int32 × Nat) × Nat) := []
set_option maxRecDepth 100000 in
theorem te_tx_addPassage : ∀ q ∈ tb_tx_addPassage, gk_eok (gk_M 105).2.1 q = true := by decide +kernel
set_option maxRecDepth 100000 in
theorem tx_tx_addPassage (oG : List (Nat × gk_G)) : ∀ q ∈ tb_tx_addPassage, gk_xok "DryPlaces$Texts" pl_tx (0, sw_tx_addPassage, oG) q := by
  have h : tb_tx_addPassage.all (fun q => gk_xokb "DryPlaces$Texts" pl_tx sw_tx_addPassage q) = true := by decide +kernel
  exact fun q hq => gk_xok_of (List.all_eq_true.mp h q hq)
theorem ok_tx_addPassage (oG : List (Nat × gk_G)) : gk_ok gk_M 105 tb_tx_addPassage pl_tx (0, sw_tx_addPassage, oG) := ⟨te_tx_addPassage, pk_tx, tx_tx_addPassage oG, rfl⟩
def tb_tx_addVoucher : gk_T := [(0, .aload_n 0, 1, 0), (1, .getfield 28, 4, 0), (4, .iload_n 1, 5, 0), (5, .dup2, 6, 0), (6, .iaload, 7, 0), (7, .iconst 1, 8, 0), (8, .iload_n 2, 9, 0), (9, .ishl, 10, 0), (10, .ior, 11, 0), (11, .iastore, 12, 0), (12, .aload_n 0, 13, 0), (13, .getfield 18, 16, 0), (16, .iconst 3, 17, 0), (17, .dup2, 18, 0), (18, .iaload, 19, 0), (19, .iconst 1, 20, 0), (20, .iadd, 21, 0), (21, .iastore, 22, 0), (22, .return_, 23, 0)]
def sw_tx_addVoucher : List (Nat × List (Int32 × Nat) × Nat) := []
set_option maxRecDepth 100000 in
theorem te_tx_addVoucher : ∀ q ∈ tb_tx_addVoucher, gk_eok (gk_M 106).2.1 q = true := by decide +kernel
set_option maxRecDepth 100000 in
theorem tx_tx_addVoucher (oG : List (Nat × gk_G)) : ∀ q ∈ tb_tx_addVoucher, gk_xok "DryPlaces$Texts" pl_tx (0, sw_tx_addVoucher, oG) q := by
  have h : tb_tx_addVoucher.all (fun q => gk_xokb "DryPlaces$Texts" pl_tx sw_tx_addVoucher q) = true := by decide +kernel
  exact fun q hq => gk_xok_of (List.all_eq_true.mp h q hq)
theorem ok_tx_addVoucher (oG : List (Nat × gk_G)) : gk_ok gk_M 106 tb_tx_addVoucher pl_tx (0, sw_tx_addVoucher, oG) := ⟨te_tx_addVoucher, pk_tx, tx_tx_addVoucher oG, rfl⟩
def tb_tx_addEntry : gk_T := [(0, .aload_n 0, 1, 0), (1, .getfield 18, 4, 0), (4, .iconst 2, 5, 0), (5, .iaload, 6, 0), (6, .iconst 4, 7, 0), (7, .imul, 8, 0), (8, .istore 5, 10, 0), (10, .iload 5, 12, 0), (12, .iconst 4, 13, 0), (13, .iadd, 14, 0), (14, .aload_n 0, 15, 0), (15, .getfield 25, 18, 0), (18, .arraylength, 19, 0), (19, .if_icmp .le 4, 22, 23), (22, .return_, 23, 0), (23, .aload_n 0, 24, 0), (24, .getfield 25, 27, 0), (27, .iload 5, 29, 0), (29, .iload_n 1, 30, 0), (30, .iastore, 31, 0), (31, .aload_n 0, 32, 0), (32, .getfield 25, 35, 0), (35, .iload 5, 37, 0), (37, .iconst 1, 38, 0), (38, .iadd, 39, 0), (39, .iload_n 2, 40, 0), (40, .iastore, 41, 0), (41, .aload_n 0, 42, 0), (42, .getfield 25, 45, 0), (45, .iload 5, 47, 0), (47, .iconst 2, 48, 0), (48, .iadd, 49, 0), (49, .iload_n 3, 50, 0), (50, .iastore, 51, 0), (51, .aload_n 0, 52, 0), (52, .getfield 25, 55, 0), (55, .iload 5, 57, 0), (57, .iconst 3, 58, 0), (58, .iadd, 59, 0), (59, .iload 4, 61, 0), (61, .iastore, 62, 0), (62, .aload_n 0, 63, 0), (63, .getfield 18, 66, 0), (66, .iconst 2, 67, 0), (67, .dup2, 68, 0), (68, .iaload, 69, 0), (69, .iconst 1, 70, 0), (70, .iadd, 71, 0), (71, .iastore, 72, 0), (72, .return_, 73, 0)]
def sw_tx_addEntry : List (Nat × List (Int32 × Nat) × Nat) := []
set_option maxRecDepth 100000 in
theorem te_tx_addEntry : ∀ q ∈ tb_tx_addEntry, gk_eok (gk_M 107).2.1 q = true := by decide +kernel
set_option maxRecDepth 100000 in
theorem tx_tx_addEntry (oG : List (Nat × gk_G)) : ∀ q ∈ tb_tx_addEntry, gk_xok "DryPlaces$Texts" pl_tx (0, sw_tx_addEntry, oG) q := by
  have h : tb_tx_addEntry.all (fun q => gk_xokb "DryPlaces$Texts" pl_tx sw_tx_addEntry q) = true := by decide +kernel
  exact fun q hq => gk_xok_of (List.all_eq_true.mp h q hq)
theorem ok_tx_addEntry (oG : List (Nat × gk_G)) : gk_ok gk_M 107 tb_tx_addEntry pl_tx (0, sw_tx_addEntry, oG) := ⟨te_tx_addEntry, pk_tx, tx_tx_addEntry oG, rfl⟩
def tb_tr_init : gk_T := [(0, .aload_n 0, 1, 0), (1, .invokespecial 3, 4, 0), (4, .aload_n 0, 5, 0), (5, .bipush 36, 7, 0), (7, .newarray .int, 9, 0), (9, .putfield 9, 12, 0), (12, .aload_n 0, 13, 0), (13, .sipush 384, 16, 0), (16, .newarray .int, 18, 0), (18, .putfield 15, 21, 0), (21, .return_, 22, 0)]
def sw_tr_init : List (Nat × List (Int32 × Nat) × Nat) := []
set_option maxRecDepth 100000 in
theorem te_tr_init : ∀ q ∈ tb_tr_init, gk_eok (gk_M 108).2.1 q = true := by decide +kernel
set_option maxRecDepth 100000 in
theorem tx_tr_init (oG : List (Nat × gk_G)) : ∀ q ∈ tb_tr_init, gk_xok "DryPlaces$Tour" pl_tr (0, sw_tr_init, oG) q := by
  have h : tb_tr_init.all (fun q => gk_xokb "DryPlaces$Tour" pl_tr sw_tr_init q) = true := by decide +kernel
  exact fun q hq => gk_xok_of (List.all_eq_true.mp h q hq)
theorem ok_tr_init (oG : List (Nat × gk_G)) : gk_ok gk_M 108 tb_tr_init pl_tr (0, sw_tr_init, oG) := ⟨te_tr_init, pk_tr, tx_tr_init oG, rfl⟩
def tb_tr_lastRoom : gk_T := [(0, .aload_n 0, 1, 0), (1, .aload_n 1, 2, 0), (2, .invokevirtual 18, 5, 0), (5, .aload_n 0, 6, 0), (6, .getfield 15, 9, 0), (9, .ldc 22, 11, 0), (11, .invokestatic 23, 14, 0), (14, .aload_n 0, 15, 0), (15, .getfield 15, 18, 0), (18, .iconst 1, 19, 0), (19, .iload_n 2, 20, 0), (20, .ishl, 21, 0), (21, .bipush 6, 23, 0), (23, .imul, 24, 0), (24, .iload_n 2, 25, 0), (25, .iadd, 26, 0), (26, .iconst 0, 27, 0), (27, .iastore, 28, 0), (28, .iconst 0, 29, 0), (29, .istore_n 3, 30, 0), (30, .iload_n 3, 31, 0), (31, .bipush 64, 33, 0), (33, .if_icmp .ge 32, 36, 65), (36, .iconst 0, 37, 0), (37, .istore 4, 39, 0), (39, .iload 4, 41, 0), (41, .bipush 6, 43, 0), (43, .if_icmp .ge 16, 46, 59), (46, .aload_n 0, 47, 0), (47, .iload_n 3, 48, 0), (48, .iload 4, 50, 0), (50, .invokevirtual 29, 53, 0), (53, .iinc 4 1, 56, 0), (56, .goto (-17), 59, 39), (59, .iinc 3 1, 62, 0), (62, .goto (-32), 65, 30), (65, .iconst 0, 66, 0), (66, .istore_n 3, 67, 0), (67, .iconst 1, 68, 0), (68, .istore 4, 70, 0), (70, .iload 4, 72, 0), (72, .bipush 6, 74, 0), (74, .if_icmp .ge 26, 77, 100), (77, .aload_n 0, 78, 0), (78, .iload 4, 80, 0), (80, .invokevirtual 33, 83, 0), (83, .aload_n 0, 84, 0), (84, .iload_n 3, 85, 0), (85, .invokevirtual 33, 88, 0), (88, .if_icmp .ge 6, 91, 94), (91, .iload 4, 93, 0), (93, .istore_n 3, 94, 0), (94, .iinc 4 1, 97, 0), (97, .goto (-27), 100, 70), (100, .aload_n 0, 101, 0), (101, .iload_n 3, 102, 0), (102, .invokevirtual 33, 105, 0), (105, .ldc 22, 107, 0), (107, .if_icmp .ge 7, 110, 114), (110, .iload_n 3, 111, 0), (111, .goto 4, 114, 115), (114, .iconst (-1), 115, 0), (115, .ireturn, 116, 0)]
def sw_tr_lastRoom : List (Nat × List (Int32 × Nat) × Nat) := []
set_option maxRecDepth 100000 in
theorem te_tr_lastRoom : ∀ q ∈ tb_tr_lastRoom, gk_eok (gk_M 109).2.1 q = true := by decide +kernel
set_option maxRecDepth 100000 in
theorem tx_tr_lastRoom (oG : List (Nat × gk_G)) : ∀ q ∈ tb_tr_lastRoom, gk_xok "DryPlaces$Tour" pl_tr (1, sw_tr_lastRoom, oG) q := by
  have h : tb_tr_lastRoom.all (fun q => gk_xokb "DryPlaces$Tour" pl_tr sw_tr_lastRoom q) = true := by decide +kernel
  exact fun q hq => gk_xok_of (List.all_eq_true.mp h q hq)
theorem ok_tr_lastRoom (oG : List (Nat × gk_G)) : gk_ok gk_M 109 tb_tr_lastRoom pl_tr (1, sw_tr_lastRoom, oG) := ⟨te_tr_lastRoom, pk_tr, tx_tr_lastRoom oG, rfl⟩
def tb_tr_lengthTo : gk_T := [(0, .aload_n 0, 1, 0), (1, .getfield 15, 4, 0), (4, .sipush 378, 7, 0), (7, .iload_n 1, 8, 0), (8, .iadd, 9, 0), (9, .iaload, 10, 0), (10, .ireturn, 11, 0)]
def sw_tr_lengthTo : List (Nat × List (Int32 × Nat) × Nat) := []
set_option maxRecDepth 100000 in
theorem te_tr_lengthTo : ∀ q ∈ tb_tr_lengthTo, gk_eok (gk_M 110).2.1 q = true := by decide +kernel
set_option maxRecDepth 100000 in
theorem tx_tr_lengthTo (oG : List (Nat × gk_G)) : ∀ q ∈ tb_tr_lengthTo, gk_xok "DryPlaces$Tour" pl_tr (1, sw_tr_lengthTo, oG) q := by
  have h : tb_tr_lengthTo.all (fun q => gk_xokb "DryPlaces$Tour" pl_tr sw_tr_lengthTo q) = true := by decide +kernel
  exact fun q hq => gk_xok_of (List.all_eq_true.mp h q hq)
theorem ok_tr_lengthTo (oG : List (Nat × gk_G)) : gk_ok gk_M 110 tb_tr_lengthTo pl_tr (1, sw_tr_lengthTo, oG) := ⟨te_tr_lengthTo, pk_tr, tx_tr_lengthTo oG, rfl⟩
def tb_tr_measure : gk_T := [(0, .iconst 0, 1, 0), (1, .istore_n 2, 2, 0), (2, .iload_n 2, 3, 0), (3, .aload_n 0, 4, 0), (4, .getfield 9, 7, 0), (7, .arraylength, 8, 0), (8, .if_icmp .ge 29, 11, 37), (11, .aload_n 0, 12, 0), (12, .getfield 9, 15, 0), (15, .iload_n 2, 16, 0), (16, .aload_n 1, 17, 0), (17, .iload_n 2, 18, 0), (18, .iaload, 19, 0), (19, .ifCond .ne 8, 22, 27), (22, .ldc 22, 24, 0), (24, .goto 6, 27, 30), (27, .aload_n 1, 28, 0), (28, .iload_n 2, 29, 0), (29, .iaload, 30, 0), (30, .iastore, 31, 0), (31, .iinc 2 1, 34, 0), (34, .goto (-32), 37, 2), (37, .iconst 0, 38, 0), (38, .istore_n 2, 39, 0), (39, .iload_n 2, 40, 0), (40, .bipush 6, 42, 0), (42, .if_icmp .ge 94, 45, 136), (45, .iconst 0, 46, 0), (46, .istore_n 3, 47, 0), (47, .iload_n 3, 48, 0), (48, .bipush 6, 50, 0), (50, .if_icmp .ge 80, 53, 130), (53, .iconst 0, 54, 0), (54, .istore 4, 56, 0), (56, .iload 4, 58, 0), (58, .bipush 6, 60, 0), (60, .if_icmp .ge 64, 63, 124), (63, .aload_n 0, 64, 0), (64, .getfield 9, 67, 0), (67, .iload_n 3, 68, 0), (68, .bipush 6, 70, 0), (70, .imul, 71, 0), (71, .iload_n 2, 72, 0), (72, .iadd, 73, 0), (73, .iaload, 74, 0), (74, .aload_n 0, 75, 0), (75, .getfield 9, 78, 0), (78, .iload_n 2, 79, 0), (79, .bipush 6, 81, 0), (81, .imul, 82, 0), (82, .iload 4, 84, 0), (84, .iadd, 85, 0), (85, .iaload, 86, 0), (86, .iadd, 87, 0), (87, .istore 5, 89, 0), (89, .aload_n 0, 90, 0), (90, .getfield 9, 93, 0), (93, .iload_n 3, 94, 0), (94, .bipush 6, 96, 0), (96, .imul, 97, 0), (97, .iload 4, 99, 0), (99, .iadd, 100, 0), (100, .aload_n 0, 101, 0), (101, .getfield 9, 104, 0), (104, .iload_n 3, 105, 0), (105, .bipush 6, 107, 0), (107, .imul, 108, 0), (108, .iload 4, 110, 0), (110, .iadd, 111, 0), (111, .iaload, 112, 0), (112, .iload 5, 114, 0), (114, .invokestatic 37, 117, 0), (117, .iastore, 118, 0), (118, .iinc 4 1, 121, 0), (121, .goto (-65), 124, 56), (124, .iinc 3 1, 127, 0), (127, .goto (-80), 130, 47), (130, .iinc 2 1, 133, 0), (133, .goto (-94), 136, 39), (136, .return_, 137, 0)]
def sw_tr_measure : List (Nat × List (Int32 × Nat) × Nat) := []
set_option maxRecDepth 100000 in
theorem te_tr_measure : ∀ q ∈ tb_tr_measure, gk_eok (gk_M 111).2.1 q = true := by decide +kernel
set_option maxRecDepth 100000 in
theorem tx_tr_measure (oG : List (Nat × gk_G)) : ∀ q ∈ tb_tr_measure, gk_xok "DryPlaces$Tour" pl_tr (0, sw_tr_measure, oG) q := by
  have h : tb_tr_measure.all (fun q => gk_xokb "DryPlaces$Tour" pl_tr sw_tr_measure q) = true := by decide +kernel
  exact fun q hq => gk_xok_of (List.all_eq_true.mp h q hq)
theorem ok_tr_measure (oG : List (Nat × gk_G)) : gk_ok gk_M 111 tb_tr_measure pl_tr (0, sw_tr_measure, oG) := ⟨te_tr_measure, pk_tr, tx_tr_measure oG, rfl⟩
def tb_tr_goOn : gk_T := [(0, .aload_n 0, 1, 0), (1, .getfield 15, 4, 0), (4, .iload_n 1, 5, 0), (5, .bipush 6, 7, 0), (7, .imul, 8, 0), (8, .iload_n 2, 9, 0), (9, .iadd, 10, 0), (10, .iaload, 11, 0), (11, .istore_n 3, 12, 0), (12, .iload_n 3, 13, 0), (13, .ldc 22, 15, 0), (15, .if_icmp .lt 4, 18, 19), (18, .return_, 19, 0), (19, .iconst 0, 20, 0), (20, .istore 4, 22, 0), (22, .iload 4, 24, 0), (24, .bipush 6, 26, 0), (26, .if_icmp .ge 63, 29, 89), (29, .iload_n 1, 30, 0), (30, .iload 4, 32, 0), (32, .ishr, 33, 0), (33, .iconst 1, 34, 0), (34, .iand, 35, 0), (35, .ifCond .ne 48, 38, 83), (38, .iload_n 1, 39, 0), (39, .iconst 1, 40, 0), (40, .iload 4, 42, 0), (42, .ishl, 43, 0), (43, .ior, 44, 0), (44, .bipush 6, 46, 0), (46, .imul, 47, 0), (47, .iload 4, 49, 0), (49, .iadd, 50, 0), (50, .istore 5, 52, 0), (52, .aload_n 0, 53, 0), (53, .getfield 15, 56, 0), (56, .iload 5, 58, 0), (58, .aload_n 0, 59, 0), (59, .getfield 15, 62, 0), (62, .iload 5, 64, 0), (64, .iaload, 65, 0), (65, .iload_n 3, 66, 0), (66, .aload_n 0, 67, 0), (67, .getfield 9, 70, 0), (70, .iload_n 2, 71, 0), (71, .bipush 6, 73, 0), (73, .imul, 74, 0), (74, .iload 4, 76, 0), (76, .iadd, 77, 0), (77, .iaload, 78, 0), (78, .iadd, 79, 0), (79, .invokestatic 37, 82, 0), (82, .iastore, 83, 0), (83, .iinc 4 1, 86, 0), (86, .goto (-64), 89, 22), (89, .return_, 90, 0)]
def sw_tr_goOn : List (Nat × List (Int32 × Nat) × Nat) := []
set_option maxRecDepth 100000 in
theorem te_tr_goOn : ∀ q ∈ tb_tr_goOn, gk_eok (gk_M 112).2.1 q = true := by decide +kernel
set_option maxRecDepth 100000 in
theorem tx_tr_goOn (oG : List (Nat × gk_G)) : ∀ q ∈ tb_tr_goOn, gk_xok "DryPlaces$Tour" pl_tr (0, sw_tr_goOn, oG) q := by
  have h : tb_tr_goOn.all (fun q => gk_xokb "DryPlaces$Tour" pl_tr sw_tr_goOn q) = true := by decide +kernel
  exact fun q hq => gk_xok_of (List.all_eq_true.mp h q hq)
theorem ok_tr_goOn (oG : List (Nat × gk_G)) : gk_ok gk_M 112 tb_tr_goOn pl_tr (0, sw_tr_goOn, oG) := ⟨te_tr_goOn, pk_tr, tx_tr_goOn oG, rfl⟩
def tb_jl_bitCount : gk_T := [(0, .lload_n 0, 1, 0), (1, .lload_n 0, 2, 0), (2, .iconst 1, 3, 0), (3, .lushr, 4, 0), (4, .ldc2_w 314, 7, 0), (7, .land, 8, 0), (8, .lsub, 9, 0), (9, .lstore_n 0, 10, 0), (10, .lload_n 0, 11, 0), (11, .ldc2_w 316, 14, 0), (14, .land, 15, 0), (15, .lload_n 0, 16, 0), (16, .iconst 2, 17, 0), (17, .lushr, 18, 0), (18, .ldc2_w 316, 21, 0), (21, .land, 22, 0), (22, .ladd, 23, 0), (23, .lstore_n 0, 24, 0), (24, .lload_n 0, 25, 0), (25, .lload_n 0, 26, 0), (26, .iconst 4, 27, 0), (27, .lushr, 28, 0), (28, .ladd, 29, 0), (29, .ldc2_w 318, 32, 0), (32, .land, 33, 0), (33, .lstore_n 0, 34, 0), (34, .lload_n 0, 35, 0), (35, .lload_n 0, 36, 0), (36, .bipush 8, 38, 0), (38, .lushr, 39, 0), (39, .ladd, 40, 0), (40, .lstore_n 0, 41, 0), (41, .lload_n 0, 42, 0), (42, .lload_n 0, 43, 0), (43, .bipush 16, 45, 0), (45, .lushr, 46, 0), (46, .ladd, 47, 0), (47, .lstore_n 0, 48, 0), (48, .lload_n 0, 49, 0), (49, .lload_n 0, 50, 0), (50, .bipush 32, 52, 0), (52, .lushr, 53, 0), (53, .ladd, 54, 0), (54, .lstore_n 0, 55, 0), (55, .lload_n 0, 56, 0), (56, .l2i, 57, 0), (57, .bipush 127, 59, 0), (59, .iand, 60, 0), (60, .ireturn, 61, 0)]
def sw_jl_bitCount : List (Nat × List (Int32 × Nat) × Nat) := []
set_option maxRecDepth 100000 in
theorem te_jl_bitCount : ∀ q ∈ tb_jl_bitCount, gk_eok (gk_M 307).2.1 q = true := by decide +kernel
set_option maxRecDepth 100000 in
theorem tx_jl_bitCount (oG : List (Nat × gk_G)) : ∀ q ∈ tb_jl_bitCount, gk_xok "java/lang/Long" pl_jl (1, sw_jl_bitCount, oG) q := by
  have h : tb_jl_bitCount.all (fun q => gk_xokb "java/lang/Long" pl_jl sw_jl_bitCount q) = true := by decide +kernel
  exact fun q hq => gk_xok_of (List.all_eq_true.mp h q hq)
theorem ok_jl_bitCount (oG : List (Nat × gk_G)) : gk_ok gk_M 307 tb_jl_bitCount pl_jl (1, sw_jl_bitCount, oG) := ⟨te_jl_bitCount, pk_jl, tx_jl_bitCount oG, rfl⟩
def tb_js_length : gk_T := [(0, .aload_n 0, 1, 0), (1, .getfield 9, 4, 0), (4, .arraylength, 5, 0), (5, .aload_n 0, 6, 0), (6, .invokevirtual 335, 9, 0), (9, .ishr, 10, 0), (10, .ireturn, 11, 0)]
def sw_js_length : List (Nat × List (Int32 × Nat) × Nat) := []
set_option maxRecDepth 100000 in
theorem te_js_length : ∀ q ∈ tb_js_length, gk_eok (gk_M 308).2.1 q = true := by decide +kernel
set_option maxRecDepth 100000 in
theorem tx_js_length (oG : List (Nat × gk_G)) : ∀ q ∈ tb_js_length, gk_xok "java/lang/String" pl_js (1, sw_js_length, oG) q := by
  have h : tb_js_length.all (fun q => gk_xokb "java/lang/String" pl_js sw_js_length q) = true := by decide +kernel
  exact fun q hq => gk_xok_of (List.all_eq_true.mp h q hq)
theorem ok_js_length (oG : List (Nat × gk_G)) : gk_ok gk_M 308 tb_js_length pl_js (1, sw_js_length, oG) := ⟨te_js_length, pk_js, tx_js_length oG, rfl⟩
def tb_js_charAt : gk_T := [(0, .aload_n 0, 1, 0), (1, .invokevirtual 492, 4, 0), (4, .ifCond .eq 12, 7, 16), (7, .aload_n 0, 8, 0), (8, .getfield 9, 11, 0), (11, .iload_n 1, 12, 0), (12, .invokestatic 495, 15, 0), (15, .ireturn, 16, 0), (16, .aload_n 0, 17, 0), (17, .getfield 9, 20, 0), (20, .iload_n 1, 21, 0), (21, .invokestatic 498, 24, 0), (24, .ireturn, 25, 0)]
def sw_js_charAt : List (Nat × List (Int32 × Nat) × Nat) := []
set_option maxRecDepth 100000 in
theorem te_js_charAt : ∀ q ∈ tb_js_charAt, gk_eok (gk_M 309).2.1 q = true := by decide +kernel
set_option maxRecDepth 100000 in
theorem tx_js_charAt (oG : List (Nat × gk_G)) : ∀ q ∈ tb_js_charAt, gk_xok "java/lang/String" pl_js (4, sw_js_charAt, oG) q := by
  have h : tb_js_charAt.all (fun q => gk_xokb "java/lang/String" pl_js sw_js_charAt q) = true := by decide +kernel
  exact fun q hq => gk_xok_of (List.all_eq_true.mp h q hq)
theorem ok_js_charAt (oG : List (Nat × gk_G)) : gk_ok gk_M 309 tb_js_charAt pl_js (4, sw_js_charAt, oG) := ⟨te_js_charAt, pk_js, tx_js_charAt oG, rfl⟩
def tb_js_indexOf : gk_T := [(0, .aload_n 0, 1, 0), (1, .iload_n 1, 2, 0), (2, .iconst 0, 3, 0), (3, .invokevirtual 633, 6, 0), (6, .ireturn, 7, 0)]
def sw_js_indexOf : List (Nat × List (Int32 × Nat) × Nat) := []
set_option maxRecDepth 100000 in
theorem te_js_indexOf : ∀ q ∈ tb_js_indexOf, gk_eok (gk_M 310).2.1 q = true := by decide +kernel
set_option maxRecDepth 100000 in
theorem tx_js_indexOf (oG : List (Nat × gk_G)) : ∀ q ∈ tb_js_indexOf, gk_xok "java/lang/String" pl_js (1, sw_js_indexOf, oG) q := by
  have h : tb_js_indexOf.all (fun q => gk_xokb "java/lang/String" pl_js sw_js_indexOf q) = true := by decide +kernel
  exact fun q hq => gk_xok_of (List.all_eq_true.mp h q hq)
theorem ok_js_indexOf (oG : List (Nat × gk_G)) : gk_ok gk_M 310 tb_js_indexOf pl_js (1, sw_js_indexOf, oG) := ⟨te_js_indexOf, pk_js, tx_js_indexOf oG, rfl⟩
def tb_js_indexOf2 : gk_T := [(0, .aload_n 0, 1, 0), (1, .invokevirtual 492, 4, 0), (4, .ifCond .eq 19, 7, 23), (7, .aload_n 0, 8, 0), (8, .getfield 9, 11, 0), (11, .iload_n 1, 12, 0), (12, .iload_n 2, 13, 0), (13, .aload_n 0, 14, 0), (14, .invokevirtual 505, 17, 0), (17, .invokestatic 637, 20, 0), (20, .goto 16, 23, 36), (23, .aload_n 0, 24, 0), (24, .getfield 9, 27, 0), (27, .iload_n 1, 28, 0), (28, .iload_n 2, 29, 0), (29, .aload_n 0, 30, 0), (30, .invokevirtual 505, 33, 0), (33, .invokestatic 640, 36, 0), (36, .ireturn, 37, 0)]
def sw_js_indexOf2 : List (Nat × List (Int32 × Nat) × Nat) := []
set_option maxRecDepth 100000 in
theorem te_js_indexOf2 : ∀ q ∈ tb_js_indexOf2, gk_eok (gk_M 311).2.1 q = true := by decide +kernel
set_option maxRecDepth 100000 in
theorem tx_js_indexOf2 (oG : List (Nat × gk_G)) : ∀ q ∈ tb_js_indexOf2, gk_xok "java/lang/String" pl_js (1, sw_js_indexOf2, oG) q := by
  have h : tb_js_indexOf2.all (fun q => gk_xokb "java/lang/String" pl_js sw_js_indexOf2 q) = true := by decide +kernel
  exact fun q hq => gk_xok_of (List.all_eq_true.mp h q hq)
theorem ok_js_indexOf2 (oG : List (Nat × gk_G)) : gk_ok gk_M 311 tb_js_indexOf2 pl_js (1, sw_js_indexOf2, oG) := ⟨te_js_indexOf2, pk_js, tx_js_indexOf2 oG, rfl⟩
def tb_js_coder : gk_T := [(0, .getstatic 38, 3, 0), (3, .ifCond .eq 10, 6, 13), (6, .aload_n 0, 7, 0), (7, .getfield 15, 10, 0), (10, .goto 4, 13, 14), (13, .iconst 1, 14, 0), (14, .ireturn, 15, 0)]
def sw_js_coder : List (Nat × List (Int32 × Nat) × Nat) := []
set_option maxRecDepth 100000 in
theorem te_js_coder : ∀ q ∈ tb_js_coder, gk_eok (gk_M 312).2.1 q = true := by decide +kernel
set_option maxRecDepth 100000 in
theorem tx_js_coder (oG : List (Nat × gk_G)) : ∀ q ∈ tb_js_coder, gk_xok "java/lang/String" pl_js (5, sw_js_coder, oG) q := gk_fc ((gk_mem 3 151 rfl rfl)) (gk_fc (trivial) (gk_fc (trivial) (gk_fc (trivial) (gk_fc (trivial) (gk_fc (trivial) (gk_fc (trivial) (gk_fn)))))))
theorem ok_js_coder (oG : List (Nat × gk_G)) : gk_ok gk_M 312 tb_js_coder pl_js (5, sw_js_coder, oG) := ⟨te_js_coder, pk_js, tx_js_coder oG, rfl⟩
def tb_js_isLatin1 : gk_T := [(0, .getstatic 38, 3, 0), (3, .ifCond .eq 14, 6, 17), (6, .aload_n 0, 7, 0), (7, .getfield 15, 10, 0), (10, .ifCond .ne 7, 13, 17), (13, .iconst 1, 14, 0), (14, .goto 4, 17, 18), (17, .iconst 0, 18, 0), (18, .ireturn, 19, 0)]
def sw_js_isLatin1 : List (Nat × List (Int32 × Nat) × Nat) := []
set_option maxRecDepth 100000 in
theorem te_js_isLatin1 : ∀ q ∈ tb_js_isLatin1, gk_eok (gk_M 313).2.1 q = true := by decide +kernel
set_option maxRecDepth 100000 in
theorem tx_js_isLatin1 (oG : List (Nat × gk_G)) : ∀ q ∈ tb_js_isLatin1, gk_xok "java/lang/String" pl_js (3, sw_js_isLatin1, oG) q := gk_fc ((gk_mem 3 151 rfl rfl)) (gk_fc (trivial) (gk_fc (trivial) (gk_fc (trivial) (gk_fc (trivial) (gk_fc (trivial) (gk_fc (trivial) (gk_fc (trivial) (gk_fc (trivial) (gk_fn)))))))))
theorem ok_js_isLatin1 (oG : List (Nat × gk_G)) : gk_ok gk_M 313 tb_js_isLatin1 pl_js (3, sw_js_isLatin1, oG) := ⟨te_js_isLatin1, pk_js, tx_js_isLatin1 oG, rfl⟩
def tb_js_checkIndex : gk_T := [(0, .iload_n 0, 1, 0), (1, .iload_n 1, 2, 0), (2, .getstatic 1053, 5, 1), (5, .invokestatic 1059, 8, 0), (8, .pop, 9, 0), (9, .return_, 10, 0)]
def sw_js_checkIndex : List (Nat × List (Int32 × Nat) × Nat) := []
set_option maxRecDepth 100000 in
theorem te_js_checkIndex : ∀ q ∈ tb_js_checkIndex, gk_eok (gk_M 314).2.1 q = true := by decide +kernel
set_option maxRecDepth 100000 in
theorem tx_js_checkIndex (oG : List (Nat × gk_G)) : ∀ q ∈ tb_js_checkIndex, gk_xok "java/lang/String" pl_js (0, sw_js_checkIndex, oG) q := gk_fc (trivial) (gk_fc (trivial) (gk_fc ((gk_mem 3 167 rfl rfl)) (gk_fc (trivial) (gk_fc (trivial) (gk_fc (trivial) (gk_fn))))))
theorem ok_js_checkIndex (oG : List (Nat × gk_G)) : gk_ok gk_M 314 tb_js_checkIndex pl_js (0, sw_js_checkIndex, oG) := ⟨te_js_checkIndex, pk_js, tx_js_checkIndex oG, rfl⟩
def tb_jt_charAt : gk_T := [(0, .iload_n 1, 1, 0), (1, .aload_n 0, 2, 0), (2, .arraylength, 3, 0), (3, .invokestatic 9, 6, 0), (6, .aload_n 0, 7, 0), (7, .iload_n 1, 8, 0), (8, .baload, 9, 0), (9, .sipush 255, 12, 0), (12, .iand, 13, 0), (13, .i2c, 14, 0), (14, .ireturn, 15, 0)]
def sw_jt_charAt : List (Nat × List (Int32 × Nat) × Nat) := []
set_option maxRecDepth 100000 in
theorem te_jt_charAt : ∀ q ∈ tb_jt_charAt, gk_eok (gk_M 315).2.1 q = true := by decide +kernel
set_option maxRecDepth 100000 in
theorem tx_jt_charAt (oG : List (Nat × gk_G)) : ∀ q ∈ tb_jt_charAt, gk_xok "java/lang/StringLatin1" pl_jt (4, sw_jt_charAt, oG) q := by
  have h : tb_jt_charAt.all (fun q => gk_xokb "java/lang/StringLatin1" pl_jt sw_jt_charAt q) = true := by decide +kernel
  exact fun q hq => gk_xok_of (List.all_eq_true.mp h q hq)
theorem ok_jt_charAt (oG : List (Nat × gk_G)) : gk_ok gk_M 315 tb_jt_charAt pl_jt (4, sw_jt_charAt, oG) := ⟨te_jt_charAt, pk_jt, tx_jt_charAt oG, rfl⟩
def tb_jt_canEncode : gk_T := [(0, .iload_n 0, 1, 0), (1, .ifCond .lt 14, 4, 15), (4, .iload_n 0, 5, 0), (5, .sipush 255, 8, 0), (8, .if_icmp .gt 7, 11, 15), (11, .iconst 1, 12, 0), (12, .goto 4, 15, 16), (15, .iconst 0, 16, 0), (16, .ireturn, 17, 0)]
def sw_jt_canEncode : List (Nat × List (Int32 × Nat) × Nat) := []
set_option maxRecDepth 100000 in
theorem te_jt_canEncode : ∀ q ∈ tb_jt_canEncode, gk_eok (gk_M 316).2.1 q = true := by decide +kernel
set_option maxRecDepth 100000 in
theorem tx_jt_canEncode (oG : List (Nat × gk_G)) : ∀ q ∈ tb_jt_canEncode, gk_xok "java/lang/StringLatin1" pl_jt (3, sw_jt_canEncode, oG) q := by
  have h : tb_jt_canEncode.all (fun q => gk_xokb "java/lang/StringLatin1" pl_jt sw_jt_canEncode q) = true := by decide +kernel
  exact fun q hq => gk_xok_of (List.all_eq_true.mp h q hq)
theorem ok_jt_canEncode (oG : List (Nat × gk_G)) : gk_ok gk_M 316 tb_jt_canEncode pl_jt (3, sw_jt_canEncode, oG) := ⟨te_jt_canEncode, pk_jt, tx_jt_canEncode oG, rfl⟩
def tb_jt_indexOf : gk_T := [(0, .iload_n 1, 1, 0), (1, .invokestatic 88, 4, 0), (4, .ifCond .ne 5, 7, 9), (7, .iconst (-1), 8, 0), (8, .ireturn, 9, 0), (9, .iload_n 2, 10, 0), (10, .iconst 0, 11, 0), (11, .invokestatic 92, 14, 0), (14, .istore_n 2, 15, 0), (15, .iload_n 3, 16, 0), (16, .aload_n 0, 17, 0), (17, .arraylength, 18, 0), (18, .invokestatic 38, 21, 0), (21, .istore_n 3, 22, 0), (22, .iload_n 2, 23, 0), (23, .iload_n 3, 24, 0), (24, .if_icmp .lt 5, 27, 29), (27, .iconst (-1), 28, 0), (28, .ireturn, 29, 0), (29, .aload_n 0, 30, 0), (30, .iload_n 1, 31, 0), (31, .iload_n 2, 32, 0), (32, .iload_n 3, 33, 0), (33, .invokestatic 95, 36, 0), (36, .ireturn, 37, 0)]
def sw_jt_indexOf : List (Nat × List (Int32 × Nat) × Nat) := []
set_option maxRecDepth 100000 in
theorem te_jt_indexOf : ∀ q ∈ tb_jt_indexOf, gk_eok (gk_M 317).2.1 q = true := by decide +kernel
set_option maxRecDepth 100000 in
theorem tx_jt_indexOf (oG : List (Nat × gk_G)) : ∀ q ∈ tb_jt_indexOf, gk_xok "java/lang/StringLatin1" pl_jt (1, sw_jt_indexOf, oG) q := by
  have h : tb_jt_indexOf.all (fun q => gk_xokb "java/lang/StringLatin1" pl_jt sw_jt_indexOf q) = true := by decide +kernel
  exact fun q hq => gk_xok_of (List.all_eq_true.mp h q hq)
theorem ok_jt_indexOf (oG : List (Nat × gk_G)) : gk_ok gk_M 317 tb_jt_indexOf pl_jt (1, sw_jt_indexOf, oG) := ⟨te_jt_indexOf, pk_jt, tx_jt_indexOf oG, rfl⟩
def tb_jt_indexOfChar : gk_T := [(0, .iload_n 1, 1, 0), (1, .i2b, 2, 0), (2, .istore 4, 4, 0), (4, .iload_n 2, 5, 0), (5, .istore 5, 7, 0), (7, .iload 5, 9, 0), (9, .iload_n 3, 10, 0), (10, .if_icmp .ge 21, 13, 31), (13, .aload_n 0, 14, 0), (14, .iload 5, 16, 0), (16, .baload, 17, 0), (17, .iload 4, 19, 0), (19, .if_icmp .ne 6, 22, 25), (22, .iload 5, 24, 0), (24, .ireturn, 25, 0), (25, .iinc 5 1, 28, 0), (28, .goto (-21), 31, 7), (31, .iconst (-1), 32, 0), (32, .ireturn, 33, 0)]
def sw_jt_indexOfChar : List (Nat × List (Int32 × Nat) × Nat) := []
set_option maxRecDepth 100000 in
theorem te_jt_indexOfChar : ∀ q ∈ tb_jt_indexOfChar, gk_eok (gk_M 318).2.1 q = true := by decide +kernel
set_option maxRecDepth 100000 in
theorem tx_jt_indexOfChar (oG : List (Nat × gk_G)) : ∀ q ∈ tb_jt_indexOfChar, gk_xok "java/lang/StringLatin1" pl_jt (1, sw_jt_indexOfChar, oG) q := by
  have h : tb_jt_indexOfChar.all (fun q => gk_xokb "java/lang/StringLatin1" pl_jt sw_jt_indexOfChar q) = true := by decide +kernel
  exact fun q hq => gk_xok_of (List.all_eq_true.mp h q hq)
theorem ok_jt_indexOfChar (oG : List (Nat × gk_G)) : gk_ok gk_M 318 tb_jt_indexOfChar pl_jt (1, sw_jt_indexOfChar, oG) := ⟨te_jt_indexOfChar, pk_jt, tx_jt_indexOfChar oG, rfl⟩
def tb_ja_fill : gk_T := [(0, .iconst 0, 1, 0), (1, .istore_n 2, 2, 0), (2, .aload_n 0, 3, 0), (3, .arraylength, 4, 0), (4, .istore_n 3, 5, 0), (5, .iload_n 2, 6, 0), (6, .iload_n 3, 7, 0), (7, .if_icmp .ge 13, 10, 20), (10, .aload_n 0, 11, 0), (11, .iload_n 2, 12, 0), (12, .iload_n 1, 13, 0), (13, .iastore, 14, 0), (14, .iinc 2 1, 17, 0), (17, .goto (-12), 20, 5), (20, .return_, 21, 0)]
def sw_ja_fill : List (Nat × List (Int32 × Nat) × Nat) := []
set_option maxRecDepth 100000 in
theorem te_ja_fill : ∀ q ∈ tb_ja_fill, gk_eok (gk_M 319).2.1 q = true := by decide +kernel
set_option maxRecDepth 100000 in
theorem tx_ja_fill (oG : List (Nat × gk_G)) : ∀ q ∈ tb_ja_fill, gk_xok "java/util/Arrays" pl_ja (0, sw_ja_fill, oG) q := by
  have h : tb_ja_fill.all (fun q => gk_xokb "java/util/Arrays" pl_ja sw_ja_fill q) = true := by decide +kernel
  exact fun q hq => gk_xok_of (List.all_eq_true.mp h q hq)
theorem ok_ja_fill (oG : List (Nat × gk_G)) : gk_ok gk_M 319 tb_ja_fill pl_ja (0, sw_ja_fill, oG) := ⟨te_ja_fill, pk_ja, tx_ja_fill oG, rfl⟩
def tb_jp_checkIndex : gk_T := [(0, .iload_n 0, 1, 0), (1, .ifCond .lt 8, 4, 9), (4, .iload_n 0, 5, 0), (5, .iload_n 1, 6, 0), (6, .if_icmp .lt 10, 9, 16), (9, .aload_n 2, 10, 0), (10, .iload_n 0, 11, 0), (11, .iload_n 1, 12, 0), (12, .invokestatic 95, 15, 0), (15, .athrow, 16, 0), (16, .iload_n 0, 17, 0), (17, .ireturn, 18, 0)]
def sw_jp_checkIndex : List (Nat × List (Int32 × Nat) × Nat) := []
set_option maxRecDepth 100000 in
theorem te_jp_checkIndex : ∀ q ∈ tb_jp_checkIndex, gk_eok (gk_M 320).2.1 q = true := by decide +kernel
set_option maxRecDepth 100000 in
theorem tx_jp_checkIndex (oG : List (Nat × gk_G)) : ∀ q ∈ tb_jp_checkIndex, gk_xok "jdk/internal/util/Preconditions" pl_jp (1, sw_jp_checkIndex, oG) q := by
  have h : tb_jp_checkIndex.all (fun q => gk_xokb "jdk/internal/util/Preconditions" pl_jp sw_jp_checkIndex q) = true := by decide +kernel
  exact fun q hq => gk_xok_of (List.all_eq_true.mp h q hq)
theorem ok_jp_checkIndex (oG : List (Nat × gk_G)) : gk_ok gk_M 320 tb_jp_checkIndex pl_jp (1, sw_jp_checkIndex, oG) := ⟨te_jp_checkIndex, pk_jp, tx_jp_checkIndex oG, rfl⟩
