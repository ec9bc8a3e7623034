/-! the constructors: their tables; a machine that makes cells -/
def T_Chooser_init : List (Nat × Instr × Nat) := [(0, .aload_n 0, 1), (1, .invokespecial 1, 3), (4, .aload_n 0, 1), (5, .iload_n 1, 1), (6, .putfield 7, 3), (9, .aload_n 0, 1), (10, .iload_n 2, 1), (11, .putfield 13, 3), (14, .aload_n 0, 1), (15, .iload_n 1, 1), (16, .iload_n 2, 1), (17, .imul, 1), (18, .newarray .int, 2), (20, .putfield 16, 3), (23, .aload_n 0, 1), (24, .iload_n 1, 1), (25, .newarray .int, 2), (27, .putfield 20, 3), (30, .aload_n 0, 1), (31, .iload_n 1, 1), (32, .iconst 1, 1), (33, .iadd, 1), (34, .newarray .int, 2), (36, .putfield 23, 3), (39, .aload_n 0, 1), (40, .iload_n 1, 1), (41, .newarray .int, 2), (43, .putfield 26, 3), (46, .aload_n 0, 1), (47, .iload_n 1, 1), (48, .newarray .int, 2), (50, .putfield 29, 3), (53, .return_, 1)]
def M_Chooser_init : MI := (0, ⟨"TouchMap$Chooser", "<init>", "(II)V"⟩, prog_2_method_1_code, 3, none, T_Chooser_init)
set_option maxRecDepth 20000 in
theorem dk_Chooser_init : ∀ e ∈ T_Chooser_init, decode prog_2_method_1_code e.1 = .ok e.2 := by decide +kernel
set_option maxRecDepth 100000 in
theorem ok_Chooser_init : OkM M_Chooser_init := ⟨dk_Chooser_init, TT_t (List.mem_of_getElem? (i := 168) rfl) rfl, by decide +kernel, rfl, TT_t (List.mem_of_getElem? (i := 8) (by decide +kernel)) rfl, by decide +kernel, by decide +kernel⟩
def T_Keeper_init : List (Nat × Instr × Nat) := [(0, .aload_n 0, 1), (1, .invokespecial 3, 3), (4, .aload_n 0, 1), (5, .new 9, 3), (8, .dup, 1), (9, .bipush 12, 2), (11, .iconst 1, 1), (12, .invokespecial 11, 3), (15, .putfield 14, 3), (18, .return_, 1)]
def M_Keeper_init : MI := (1, ⟨"TouchMap$Keeper", "<init>", "()V"⟩, prog_3_method_1_code, 1, none, T_Keeper_init)
set_option maxRecDepth 20000 in
theorem dk_Keeper_init : ∀ e ∈ T_Keeper_init, decode prog_3_method_1_code e.1 = .ok e.2 := by decide +kernel
set_option maxRecDepth 100000 in
theorem ok_Keeper_init : OkM M_Keeper_init := ⟨dk_Keeper_init, TT_t (List.mem_of_getElem? (i := 162) rfl) rfl, by decide +kernel, rfl, TT_t (List.mem_of_getElem? (i := 7) (by decide +kernel)) rfl, by decide +kernel, by decide +kernel⟩
def T_Layer_init : List (Nat × Instr × Nat) := [(0, .aload_n 0, 1), (1, .invokespecial 3, 3), (4, .aload_n 0, 1), (5, .bipush 8, 2), (7, .newarray .int, 2), (9, .putfield 9, 3), (12, .aload_n 0, 1), (13, .iconst 5, 1), (14, .newarray .int, 2), (16, .putfield 15, 3), (19, .aload_n 0, 1), (20, .bipush 8, 2), (22, .newarray .int, 2), (24, .putfield 18, 3), (27, .aload_n 0, 1), (28, .bipush 8, 2), (30, .newarray .int, 2), (32, .putfield 21, 3), (35, .aload_n 0, 1), (36, .bipush 8, 2), (38, .newarray .long, 2), (40, .putfield 24, 3), (43, .return_, 1)]
def M_Layer_init : MI := (2, ⟨"TouchMap$Layer", "<init>", "()V"⟩, prog_4_method_1_code, 1, none, T_Layer_init)
set_option maxRecDepth 20000 in
theorem dk_Layer_init : ∀ e ∈ T_Layer_init, decode prog_4_method_1_code e.1 = .ok e.2 := by decide +kernel
set_option maxRecDepth 100000 in
theorem ok_Layer_init : OkM M_Layer_init := ⟨dk_Layer_init, TT_t (List.mem_of_getElem? (i := 275) rfl) rfl, by decide +kernel, rfl, TT_t (List.mem_of_getElem? (i := 11) (by decide +kernel)) rfl, by decide +kernel, by decide +kernel⟩
def T_Line_init : List (Nat × Instr × Nat) := [(0, .aload_n 0, 1), (1, .invokespecial 1, 3), (4, .return_, 1)]
def M_Line_init : MI := (3, ⟨"TouchMap$Line", "<init>", "()V"⟩, prog_5_method_1_code, 1, none, T_Line_init)
set_option maxRecDepth 20000 in
theorem dk_Line_init : ∀ e ∈ T_Line_init, decode prog_5_method_1_code e.1 = .ok e.2 := by decide +kernel
set_option maxRecDepth 100000 in
theorem ok_Line_init : OkM M_Line_init := ⟨dk_Line_init, TT_t (List.mem_of_getElem? (i := 126) rfl) rfl, by decide +kernel, rfl, TT_t (List.mem_of_getElem? (i := 6) (by decide +kernel)) rfl, by decide +kernel, by decide +kernel⟩
def T_Name_init : List (Nat × Instr × Nat) := [(0, .aload_n 0, 1), (1, .invokespecial 3, 3), (4, .aload_n 0, 1), (5, .new 9, 3), (8, .dup, 1), (9, .bipush 12, 2), (11, .invokespecial 11, 3), (14, .putfield 14, 3), (17, .return_, 1)]
def M_Name_init : MI := (4, ⟨"TouchMap$Name", "<init>", "()V"⟩, prog_6_method_1_code, 1, none, T_Name_init)
set_option maxRecDepth 20000 in
theorem dk_Name_init : ∀ e ∈ T_Name_init, decode prog_6_method_1_code e.1 = .ok e.2 := by decide +kernel
set_option maxRecDepth 100000 in
theorem ok_Name_init : OkM M_Name_init := ⟨dk_Name_init, TT_t (List.mem_of_getElem? (i := 75) rfl) rfl, by decide +kernel, rfl, TT_t (List.mem_of_getElem? (i := 3) (by decide +kernel)) rfl, by decide +kernel, by decide +kernel⟩
def T_Ruler_init : List (Nat × Instr × Nat) := [(0, .aload_n 0, 1), (1, .invokespecial 3, 3), (4, .aload_n 0, 1), (5, .new 9, 3), (8, .dup, 1), (9, .invokespecial 11, 3), (12, .putfield 12, 3), (15, .aload_n 0, 1), (16, .new 9, 3), (19, .dup, 1), (20, .invokespecial 11, 3), (23, .putfield 18, 3), (26, .aload_n 0, 1), (27, .bipush 20, 2), (29, .newarray .int, 2), (31, .putfield 21, 3), (34, .aload_n 0, 1), (35, .bipush 20, 2), (37, .newarray .int, 2), (39, .putfield 25, 3), (42, .return_, 1)]
def M_Ruler_init : MI := (5, ⟨"TouchMap$Ruler", "<init>", "()V"⟩, prog_7_method_1_code, 1, none, T_Ruler_init)
set_option maxRecDepth 20000 in
theorem dk_Ruler_init : ∀ e ∈ T_Ruler_init, decode prog_7_method_1_code e.1 = .ok e.2 := by decide +kernel
set_option maxRecDepth 100000 in
theorem ok_Ruler_init : OkM M_Ruler_init := ⟨dk_Ruler_init, TT_t (List.mem_of_getElem? (i := 120) rfl) rfl, by decide +kernel, rfl, TT_t (List.mem_of_getElem? (i := 5) (by decide +kernel)) rfl, by decide +kernel, by decide +kernel⟩
def T_Setter_init : List (Nat × Instr × Nat) := [(0, .aload_n 0, 1), (1, .invokespecial 3, 3), (4, .aload_n 0, 1), (5, .new 9, 3), (8, .dup, 1), (9, .bipush 8, 2), (11, .iconst 4, 1), (12, .invokespecial 11, 3), (15, .putfield 14, 3), (18, .aload_n 0, 1), (19, .new 20, 3), (22, .dup, 1), (23, .invokespecial 22, 3), (26, .putfield 23, 3), (29, .aload_n 0, 1), (30, .bipush 32, 2), (32, .newarray .int, 2), (34, .putfield 27, 3), (37, .aload_n 0, 1), (38, .bipush 32, 2), (40, .newarray .int, 2), (42, .putfield 31, 3), (45, .aload_n 0, 1), (46, .bipush 32, 2), (48, .newarray .int, 2), (50, .putfield 34, 3), (53, .aload_n 0, 1), (54, .bipush 8, 2), (56, .newarray .int, 2), (58, .putfield 37, 3), (61, .iconst 0, 1), (62, .istore_n 1, 1), (63, .iload_n 1, 1), (64, .bipush 8, 2), (66, .if_icmp .ge 16, 3), (69, .aload_n 0, 1), (70, .getfield 37, 3), (73, .iload_n 1, 1), (74, .iconst (-1), 1), (75, .iastore, 1), (76, .iinc 1 1, 3), (79, .goto (-16), 3), (82, .return_, 1)]
def M_Setter_init : MI := (6, ⟨"TouchMap$Setter", "<init>", "()V"⟩, prog_8_method_1_code, 2, none, T_Setter_init)
set_option maxRecDepth 20000 in
theorem dk_Setter_init : ∀ e ∈ T_Setter_init, decode prog_8_method_1_code e.1 = .ok e.2 := by decide +kernel
set_option maxRecDepth 100000 in
theorem ok_Setter_init : OkM M_Setter_init := ⟨dk_Setter_init, TT_t (List.mem_of_getElem? (i := 242) rfl) rfl, by decide +kernel, rfl, TT_t (List.mem_of_getElem? (i := 10) (by decide +kernel)) rfl, by decide +kernel, by decide +kernel⟩
def T_Speller_init : List (Nat × Instr × Nat) := [(0, .aload_n 0, 1), (1, .invokespecial 3, 3), (4, .aload_n 0, 1), (5, .bipush 10, 2), (7, .anewarray 9, 3), (10, .putfield 11, 3), (13, .aload_n 0, 1), (14, .bipush 10, 2), (16, .newarray .int, 2), (18, .putfield 17, 3), (21, .aload_n 0, 1), (22, .bipush 13, 2), (24, .newarray .int, 2), (26, .putfield 21, 3), (29, .aload_n 0, 1), (30, .bipush 12, 2), (32, .newarray .int, 2), (34, .putfield 24, 3), (37, .aload_n 0, 1), (38, .bipush 12, 2), (40, .newarray .int, 2), (42, .putfield 27, 3), (45, .aload_n 0, 1), (46, .bipush 12, 2), (48, .newarray .int, 2), (50, .putfield 30, 3), (53, .iconst 0, 1), (54, .istore_n 1, 1), (55, .iload_n 1, 1), (56, .bipush 10, 2), (58, .if_icmp .ge 23, 3), (61, .aload_n 0, 1), (62, .getfield 11, 3), (65, .iload_n 1, 1), (66, .new 9, 3), (69, .dup, 1), (70, .iconst 4, 1), (71, .invokespecial 33, 3), (74, .aastore, 1), (75, .iinc 1 1, 3), (78, .goto (-23), 3), (81, .return_, 1)]
def M_Speller_init : MI := (7, ⟨"TouchMap$Speller", "<init>", "()V"⟩, prog_9_method_1_code, 2, none, T_Speller_init)
set_option maxRecDepth 20000 in
theorem dk_Speller_init : ∀ e ∈ T_Speller_init, decode prog_9_method_1_code e.1 = .ok e.2 := by decide +kernel
set_option maxRecDepth 100000 in
theorem ok_Speller_init : OkM M_Speller_init := ⟨dk_Speller_init, TT_t (List.mem_of_getElem? (i := 213) rfl) rfl, by decide +kernel, rfl, TT_t (List.mem_of_getElem? (i := 9) (by decide +kernel)) rfl, by decide +kernel, by decide +kernel⟩
def T_Way_init : List (Nat × Instr × Nat) := [(0, .aload_n 0, 1), (1, .invokespecial 3, 3), (4, .aload_n 0, 1), (5, .bipush 20, 2), (7, .newarray .int, 2), (9, .putfield 9, 3), (12, .aload_n 0, 1), (13, .bipush 20, 2), (15, .newarray .int, 2), (17, .putfield 15, 3), (20, .aload_n 0, 1), (21, .bipush 20, 2), (23, .newarray .int, 2), (25, .putfield 18, 3), (28, .return_, 1)]
def M_Way_init : MI := (8, ⟨"TouchMap$Way", "<init>", "()V"⟩, prog_10_method_1_code, 1, none, T_Way_init)
set_option maxRecDepth 20000 in
theorem dk_Way_init : ∀ e ∈ T_Way_init, decode prog_10_method_1_code e.1 = .ok e.2 := by decide +kernel
set_option maxRecDepth 100000 in
theorem ok_Way_init : OkM M_Way_init := ⟨dk_Way_init, TT_t (List.mem_of_getElem? (i := 30) rfl) rfl, by decide +kernel, rfl, TT_t (List.mem_of_getElem? (i := 2) (by decide +kernel)) rfl, by decide +kernel, by decide +kernel⟩
def T_Word_init : List (Nat × Instr × Nat) := [(0, .aload_n 0, 1), (1, .invokespecial 1, 3), (4, .aload_n 0, 1), (5, .iload_n 1, 1), (6, .newarray .int, 2), (8, .putfield 7, 3), (11, .return_, 1)]
def M_Word_init : MI := (9, ⟨"TouchMap$Word", "<init>", "(I)V"⟩, prog_11_method_1_code, 2, none, T_Word_init)
set_option maxRecDepth 20000 in
theorem dk_Word_init : ∀ e ∈ T_Word_init, decode prog_11_method_1_code e.1 = .ok e.2 := by decide +kernel
set_option maxRecDepth 100000 in
theorem ok_Word_init : OkM M_Word_init := ⟨dk_Word_init, TT_t (List.mem_of_getElem? (i := 81) rfl) rfl, by decide +kernel, rfl, TT_t (List.mem_of_getElem? (i := 4) (by decide +kernel)) rfl, by decide +kernel, by decide +kernel⟩
def T_TM_init : List (Nat × Instr × Nat) := [(0, .aload_n 0, 1), (1, .invokespecial 1, 3), (4, .aload_n 0, 1), (5, .bipush 12, 2), (7, .anewarray 9, 3), (10, .putfield 11, 3), (13, .iconst 0, 1), (14, .istore_n 1, 1), (15, .iload_n 1, 1), (16, .bipush 12, 2), (18, .if_icmp .ge 22, 3), (21, .aload_n 0, 1), (22, .getfield 11, 3), (25, .iload_n 1, 1), (26, .new 9, 3), (29, .dup, 1), (30, .invokespecial 15, 3), (33, .aastore, 1), (34, .iinc 1 1, 3), (37, .goto (-22), 3), (40, .aload_n 0, 1), (41, .bipush 8, 2), (43, .anewarray 16, 3), (46, .putfield 18, 3), (49, .iconst 0, 1), (50, .istore_n 1, 1), (51, .iload_n 1, 1), (52, .bipush 8, 2), (54, .if_icmp .ge 22, 3), (57, .aload_n 0, 1), (58, .getfield 18, 3), (61, .iload_n 1, 1), (62, .new 16, 3), (65, .dup, 1), (66, .invokespecial 22, 3), (69, .aastore, 1), (70, .iinc 1 1, 3), (73, .goto (-22), 3), (76, .aload_n 0, 1), (77, .new 23, 3), (80, .dup, 1), (81, .invokespecial 25, 3), (84, .putfield 26, 3), (87, .aload_n 0, 1), (88, .new 30, 3), (91, .dup, 1), (92, .invokespecial 32, 3), (95, .putfield 33, 3), (98, .aload_n 0, 1), (99, .new 37, 3), (102, .dup, 1), (103, .bipush 12, 2), (105, .invokespecial 39, 3), (108, .putfield 42, 3), (111, .aload_n 0, 1), (112, .new 46, 3), (115, .dup, 1), (116, .invokespecial 48, 3), (119, .putfield 49, 3), (122, .aload_n 0, 1), (123, .new 53, 3), (126, .dup, 1), (127, .invokespecial 55, 3), (130, .putfield 56, 3), (133, .aload_n 0, 1), (134, .new 60, 3), (137, .dup, 1), (138, .invokespecial 62, 3), (141, .putfield 63, 3), (144, .aload_n 0, 1), (145, .bipush 10, 2), (147, .putfield 67, 3), (150, .return_, 1)]
def M_TM_init : MI := (10, ⟨"TouchMap", "<init>", "()V"⟩, prog_1_method_1_code, 2, none, T_TM_init)
set_option maxRecDepth 20000 in
theorem dk_TM_init : ∀ e ∈ T_TM_init, decode prog_1_method_1_code e.1 = .ok e.2 := by decide +kernel
set_option maxRecDepth 100000 in
theorem ok_TM_init : OkM M_TM_init := ⟨dk_TM_init, TT_t (List.mem_of_getElem? (i := 21) rfl) rfl, by decide +kernel, rfl, TT_t (List.mem_of_getElem? (i := 1) (by decide +kernel)) rfl, by decide +kernel, by decide +kernel⟩
def T_MD_init : List (Nat × Instr × Nat) := [(0, .aload_n 0, 1), (1, .invokespecial 1, 3), (4, .aload_n 0, 1), (5, .bipush 12, 2), (7, .newarray .boolean, 2), (9, .putfield 7, 3), (12, .aload_n 0, 1), (13, .bipush 12, 2), (15, .newarray .int, 2), (17, .putfield 13, 3), (20, .aload_n 0, 1), (21, .bipush 12, 2), (23, .newarray .boolean, 2), (25, .putfield 17, 3), (28, .aload_n 0, 1), (29, .bipush 12, 2), (31, .newarray .int, 2), (33, .putfield 20, 3), (36, .aload_n 0, 1), (37, .sipush 240, 3), (40, .newarray .int, 2), (42, .putfield 23, 3), (45, .aload_n 0, 1), (46, .sipush 240, 3), (49, .newarray .int, 2), (51, .putfield 26, 3), (54, .aload_n 0, 1), (55, .bipush 12, 2), (57, .newarray .int, 2), (59, .putfield 29, 3), (62, .aload_n 0, 1), (63, .sipush 240, 3), (66, .newarray .int, 2), (68, .putfield 32, 3), (71, .aload_n 0, 1), (72, .bipush 20, 2), (74, .newarray .int, 2), (76, .putfield 35, 3), (79, .aload_n 0, 1), (80, .bipush 10, 2), (82, .putfield 38, 3), (85, .aload_n 0, 1), (86, .bipush 12, 2), (88, .newarray .int, 2), (90, .putfield 42, 3), (93, .aload_n 0, 1), (94, .bipush 26, 2), (96, .newarray .int, 2), (98, .dup, 1), (99, .iconst 0, 1), (100, .iconst 1, 1), (101, .iastore, 1), (102, .dup, 1), (103, .iconst 1, 1), (104, .iconst 3, 1), (105, .iastore, 1), (106, .dup, 1), (107, .iconst 2, 1), (108, .bipush 9, 2), (110, .iastore, 1), (111, .dup, 1), (112, .iconst 3, 1), (113, .bipush 25, 2), (115, .iastore, 1), (116, .dup, 1), (117, .iconst 4, 1), (118, .bipush 17, 2), (120, .iastore, 1), (121, .dup, 1), (122, .iconst 5, 1), (123, .bipush 11, 2), (125, .iastore, 1), (126, .dup, 1), (127, .bipush 6, 2), (129, .bipush 27, 2), (131, .iastore, 1), (132, .dup, 1), (133, .bipush 7, 2), (135, .bipush 19, 2), (137, .iastore, 1), (138, .dup, 1), (139, .bipush 8, 2), (141, .bipush 10, 2), (143, .iastore, 1), (144, .dup, 1), (145, .bipush 9, 2), (147, .bipush 26, 2), (149, .iastore, 1), (150, .dup, 1), (151, .bipush 10, 2), (153, .iconst 5, 1), (154, .iastore, 1), (155, .dup, 1), (156, .bipush 11, 2), (158, .bipush 7, 2), (160, .iastore, 1), (161, .dup, 1), (162, .bipush 12, 2), (164, .bipush 13, 2), (166, .iastore, 1), (167, .dup, 1), (168, .bipush 13, 2), (170, .bipush 29, 2), (172, .iastore, 1), (173, .dup, 1), (174, .bipush 14, 2), (176, .bipush 21, 2), (178, .iastore, 1), (179, .dup, 1), (180, .bipush 15, 2), (182, .bipush 15, 2), (184, .iastore, 1), (185, .dup, 1), (186, .bipush 16, 2), (188, .bipush 31, 2), (190, .iastore, 1), (191, .dup, 1), (192, .bipush 17, 2), (194, .bipush 23, 2), (196, .iastore, 1), (197, .dup, 1), (198, .bipush 18, 2), (200, .bipush 14, 2), (202, .iastore, 1), (203, .dup, 1), (204, .bipush 19, 2), (206, .bipush 30, 2), (208, .iastore, 1), (209, .dup, 1), (210, .bipush 20, 2), (212, .bipush 37, 2), (214, .iastore, 1), (215, .dup, 1), (216, .bipush 21, 2), (218, .bipush 39, 2), (220, .iastore, 1), (221, .dup, 1), (222, .bipush 22, 2), (224, .bipush 58, 2), (226, .iastore, 1), (227, .dup, 1), (228, .bipush 23, 2), (230, .bipush 45, 2), (232, .iastore, 1), (233, .dup, 1), (234, .bipush 24, 2), (236, .bipush 61, 2), (238, .iastore, 1), (239, .dup, 1), (240, .bipush 25, 2), (242, .bipush 53, 2), (244, .iastore, 1), (245, .putfield 45, 3), (248, .aload_n 0, 1), (249, .bipush 12, 2), (251, .newarray .int, 2), (253, .putfield 48, 3), (256, .aload_n 0, 1), (257, .bipush 10, 2), (259, .newarray .int, 2), (261, .putfield 51, 3), (264, .aload_n 0, 1), (265, .bipush 40, 2), (267, .newarray .int, 2), (269, .putfield 54, 3), (272, .aload_n 0, 1), (273, .bipush 10, 2), (275, .newarray .int, 2), (277, .putfield 57, 3), (280, .aload_n 0, 1), (281, .bipush 8, 2), (283, .newarray .int, 2), (285, .putfield 60, 3), (288, .aload_n 0, 1), (289, .bipush 96, 2), (291, .newarray .int, 2), (293, .putfield 63, 3), (296, .aload_n 0, 1), (297, .bipush 8, 2), (299, .newarray .int, 2), (301, .putfield 66, 3), (304, .aload_n 0, 1), (305, .bipush 8, 2), (307, .newarray .int, 2), (309, .putfield 69, 3), (312, .aload_n 0, 1), (313, .bipush 8, 2), (315, .newarray .int, 2), (317, .putfield 72, 3), (320, .aload_n 0, 1), (321, .bipush 13, 2), (323, .newarray .int, 2), (325, .putfield 75, 3), (328, .aload_n 0, 1), (329, .bipush 12, 2), (331, .newarray .int, 2), (333, .putfield 78, 3), (336, .aload_n 0, 1), (337, .bipush 32, 2), (339, .newarray .int, 2), (341, .putfield 81, 3), (344, .aload_n 0, 1), (345, .bipush 32, 2), (347, .newarray .int, 2), (349, .putfield 84, 3), (352, .aload_n 0, 1), (353, .bipush 32, 2), (355, .newarray .int, 2), (357, .putfield 87, 3), (360, .aload_n 0, 1), (361, .bipush 32, 2), (363, .newarray .boolean, 2), (365, .putfield 90, 3), (368, .aload_n 0, 1), (369, .sipush 1024, 3), (372, .newarray .boolean, 2), (374, .putfield 93, 3), (377, .aload_n 0, 1), (378, .bipush 8, 2), (380, .newarray .int, 2), (382, .putfield 96, 3), (385, .aload_n 0, 1), (386, .bipush 8, 2), (388, .newarray .int, 2), (390, .dup, 1), (391, .iconst 0, 1), (392, .iconst (-1), 1), (393, .iastore, 1), (394, .dup, 1), (395, .iconst 1, 1), (396, .iconst (-1), 1), (397, .iastore, 1), (398, .dup, 1), (399, .iconst 2, 1), (400, .iconst (-1), 1), (401, .iastore, 1), (402, .dup, 1), (403, .iconst 3, 1), (404, .iconst (-1), 1), (405, .iastore, 1), (406, .dup, 1), (407, .iconst 4, 1), (408, .iconst (-1), 1), (409, .iastore, 1), (410, .dup, 1), (411, .iconst 5, 1), (412, .iconst (-1), 1), (413, .iastore, 1), (414, .dup, 1), (415, .bipush 6, 2), (417, .iconst (-1), 1), (418, .iastore, 1), (419, .dup, 1), (420, .bipush 7, 2), (422, .iconst (-1), 1), (423, .iastore, 1), (424, .putfield 99, 3), (427, .aload_n 0, 1), (428, .bipush 64, 2), (430, .newarray .boolean, 2), (432, .putfield 102, 3), (435, .aload_n 0, 1), (436, .bipush 25, 2), (438, .newarray .boolean, 2), (440, .putfield 105, 3), (443, .aload_n 0, 1), (444, .bipush 8, 2), (446, .newarray .int, 2), (448, .putfield 108, 3), (451, .aload_n 0, 1), (452, .bipush 8, 2), (454, .newarray .int, 2), (456, .putfield 111, 3), (459, .return_, 1)]
def M_MD_init : MI := (11, ⟨"TouchMapModel", "<init>", "()V"⟩, prog_13_method_1_code, 1, none, T_MD_init)
set_option maxRecDepth 20000 in
theorem dk_MD_init : ∀ e ∈ T_MD_init, decode prog_13_method_1_code e.1 = .ok e.2 := by decide +kernel
set_option maxRecDepth 100000 in
theorem ok_MD_init : OkM M_MD_init := ⟨dk_MD_init, TT_t (List.mem_of_getElem? (i := 685) rfl) rfl, by decide +kernel, rfl, TT_t (List.mem_of_getElem? (i := 12) (by decide +kernel)) rfl, by decide +kernel, by decide +kernel⟩
def KM (c : Nat) : MI := match c with
  | 0 => M_Chooser_init
  | 1 => M_Keeper_init
  | 2 => M_Layer_init
  | 3 => M_Line_init
  | 4 => M_Name_init
  | 5 => M_Ruler_init
  | 6 => M_Setter_init
  | 7 => M_Speller_init
  | 8 => M_Way_init
  | 9 => M_Word_init
  | 10 => M_TM_init
  | _ => M_MD_init
def ka (c : Nat) : Nat := match c with
  | 0 => 2
  | 9 => 1
  | _ => 0
/-- class links, calls of constructors, calls of Object() -/
def kcl (own idx : Nat) : Option Nat := match own, idx with
  | 12, 7 => some 10
  | 10, 9 => some 8
  | 10, 16 => some 4
  | 4, 9 => some 9
  | 10, 23 => some 5
  | 5, 9 => some 3
  | 10, 30 => some 1
  | 1, 9 => some 0
  | 10, 37 => some 9
  | 10, 46 => some 7
  | 7, 9 => some 9
  | 10, 53 => some 6
  | 6, 9 => some 0
  | 6, 20 => some 3
  | 10, 60 => some 2
  | 12, 10 => some 11
  | _, _ => none
def kme (own idx : Nat) : Option Nat := match own, idx with
  | 12, 9 => some 10
  | 10, 15 => some 8
  | 10, 22 => some 4
  | 4, 11 => some 9
  | 10, 25 => some 5
  | 5, 11 => some 3
  | 10, 32 => some 1
  | 1, 11 => some 0
  | 10, 39 => some 9
  | 10, 48 => some 7
  | 7, 33 => some 9
  | 10, 55 => some 6
  | 6, 11 => some 0
  | 6, 22 => some 3
  | 10, 62 => some 2
  | 12, 12 => some 11
  | _, _ => none
def kob (own idx : Nat) : Bool := match own, idx with
  | 10, 1 => true
  | 8, 3 => true
  | 4, 3 => true
  | 9, 1 => true
  | 5, 3 => true
  | 3, 1 => true
  | 1, 3 => true
  | 0, 1 => true
  | 7, 3 => true
  | 6, 3 => true
  | 2, 3 => true
  | 11, 1 => true
  | _, _ => false
set_option maxRecDepth 100000 in
theorem kcl_w {own idx ci : Nat} (h : kcl own idx = some ci) : Cond.classLink (cn own) idx (cn ci) ∈ TT ∧ ci < 12 := by
  unfold kcl at h
  split at h
  · cases h; exact ⟨TT_t (List.mem_of_getElem? (i := 17) (by decide +kernel)) rfl, by omega⟩
  · cases h; exact ⟨TT_t (List.mem_of_getElem? (i := 25) (by decide +kernel)) rfl, by omega⟩
  · cases h; exact ⟨TT_t (List.mem_of_getElem? (i := 70) (by decide +kernel)) rfl, by omega⟩
  · cases h; exact ⟨TT_t (List.mem_of_getElem? (i := 77) (by decide +kernel)) rfl, by omega⟩
  · cases h; exact ⟨TT_t (List.mem_of_getElem? (i := 116) (by decide +kernel)) rfl, by omega⟩
  · cases h; exact ⟨TT_t (List.mem_of_getElem? (i := 122) (by decide +kernel)) rfl, by omega⟩
  · cases h; exact ⟨TT_t (List.mem_of_getElem? (i := 158) (by decide +kernel)) rfl, by omega⟩
  · cases h; exact ⟨TT_t (List.mem_of_getElem? (i := 164) (by decide +kernel)) rfl, by omega⟩
  · cases h; exact ⟨TT_t (List.mem_of_getElem? (i := 207) (by decide +kernel)) rfl, by omega⟩
  · cases h; exact ⟨TT_t (List.mem_of_getElem? (i := 209) (by decide +kernel)) rfl, by omega⟩
  · cases h; exact ⟨TT_t (List.mem_of_getElem? (i := 215) (by decide +kernel)) rfl, by omega⟩
  · cases h; exact ⟨TT_t (List.mem_of_getElem? (i := 238) (by decide +kernel)) rfl, by omega⟩
  · cases h; exact ⟨TT_t (List.mem_of_getElem? (i := 244) (by decide +kernel)) rfl, by omega⟩
  · cases h; exact ⟨TT_t (List.mem_of_getElem? (i := 246) (by decide +kernel)) rfl, by omega⟩
  · cases h; exact ⟨TT_t (List.mem_of_getElem? (i := 271) (by decide +kernel)) rfl, by omega⟩
  · cases h; exact ⟨TT_t (List.mem_of_getElem? (i := 681) (by decide +kernel)) rfl, by omega⟩
  · cases h
set_option maxRecDepth 100000 in
theorem kme_w {own idx ci : Nat} (h : kme own idx = some ci) : Lk own idx (KM ci) (ka ci) ∧ Cond.instanceMethod (KM ci).y ∈ TT ∧ (KM ci).y.name = "<init>" ∧ (KM ci).ret = none ∧ (KM ci).own < 12 := by
  unfold kme at h
  split at h
  · cases h; exact ⟨⟨ok_TM_init, Or.inr (TT_t (List.mem_of_getElem? (i := 19) (by decide +kernel)) rfl), by decide +kernel, by decide⟩, TT_t (List.mem_of_getElem? (i := 20) (by decide +kernel)) rfl, rfl, rfl, by decide⟩
  · cases h; exact ⟨⟨ok_Way_init, Or.inl (List.mem_filter.mpr ⟨List.mem_of_getElem? (i := 28) (by decide +kernel), rfl⟩), by decide +kernel, by decide⟩, TT_t (List.mem_of_getElem? (i := 29) (by decide +kernel)) rfl, rfl, rfl, by decide⟩
  · cases h; exact ⟨⟨ok_Name_init, Or.inl (List.mem_filter.mpr ⟨List.mem_of_getElem? (i := 73) (by decide +kernel), rfl⟩), by decide +kernel, by decide⟩, TT_t (List.mem_of_getElem? (i := 74) (by decide +kernel)) rfl, rfl, rfl, by decide⟩
  · cases h; exact ⟨⟨ok_Word_init, Or.inl (List.mem_filter.mpr ⟨List.mem_of_getElem? (i := 79) (by decide +kernel), rfl⟩), by decide +kernel, by decide⟩, TT_t (List.mem_of_getElem? (i := 80) (by decide +kernel)) rfl, rfl, rfl, by decide⟩
  · cases h; exact ⟨⟨ok_Ruler_init, Or.inl (List.mem_filter.mpr ⟨List.mem_of_getElem? (i := 118) (by decide +kernel), rfl⟩), by decide +kernel, by decide⟩, TT_t (List.mem_of_getElem? (i := 119) (by decide +kernel)) rfl, rfl, rfl, by decide⟩
  · cases h; exact ⟨⟨ok_Line_init, Or.inl (List.mem_filter.mpr ⟨List.mem_of_getElem? (i := 124) (by decide +kernel), rfl⟩), by decide +kernel, by decide⟩, TT_t (List.mem_of_getElem? (i := 125) (by decide +kernel)) rfl, rfl, rfl, by decide⟩
  · cases h; exact ⟨⟨ok_Keeper_init, Or.inl (List.mem_filter.mpr ⟨List.mem_of_getElem? (i := 160) (by decide +kernel), rfl⟩), by decide +kernel, by decide⟩, TT_t (List.mem_of_getElem? (i := 161) (by decide +kernel)) rfl, rfl, rfl, by decide⟩
  · cases h; exact ⟨⟨ok_Chooser_init, Or.inl (List.mem_filter.mpr ⟨List.mem_of_getElem? (i := 166) (by decide +kernel), rfl⟩), by decide +kernel, by decide⟩, TT_t (List.mem_of_getElem? (i := 167) (by decide +kernel)) rfl, rfl, rfl, by decide⟩
  · cases h; exact ⟨⟨ok_Word_init, Or.inl (List.mem_filter.mpr ⟨List.mem_of_getElem? (i := 208) (by decide +kernel), rfl⟩), by decide +kernel, by decide⟩, TT_t (List.mem_of_getElem? (i := 80) (by decide +kernel)) rfl, rfl, rfl, by decide⟩
  · cases h; exact ⟨⟨ok_Speller_init, Or.inl (List.mem_filter.mpr ⟨List.mem_of_getElem? (i := 211) (by decide +kernel), rfl⟩), by decide +kernel, by decide⟩, TT_t (List.mem_of_getElem? (i := 212) (by decide +kernel)) rfl, rfl, rfl, by decide⟩
  · cases h; exact ⟨⟨ok_Word_init, Or.inl (List.mem_filter.mpr ⟨List.mem_of_getElem? (i := 217) (by decide +kernel), rfl⟩), by decide +kernel, by decide⟩, TT_t (List.mem_of_getElem? (i := 80) (by decide +kernel)) rfl, rfl, rfl, by decide⟩
  · cases h; exact ⟨⟨ok_Setter_init, Or.inl (List.mem_filter.mpr ⟨List.mem_of_getElem? (i := 240) (by decide +kernel), rfl⟩), by decide +kernel, by decide⟩, TT_t (List.mem_of_getElem? (i := 241) (by decide +kernel)) rfl, rfl, rfl, by decide⟩
  · cases h; exact ⟨⟨ok_Chooser_init, Or.inl (List.mem_filter.mpr ⟨List.mem_of_getElem? (i := 245) (by decide +kernel), rfl⟩), by decide +kernel, by decide⟩, TT_t (List.mem_of_getElem? (i := 167) (by decide +kernel)) rfl, rfl, rfl, by decide⟩
  · cases h; exact ⟨⟨ok_Line_init, Or.inl (List.mem_filter.mpr ⟨List.mem_of_getElem? (i := 247) (by decide +kernel), rfl⟩), by decide +kernel, by decide⟩, TT_t (List.mem_of_getElem? (i := 125) (by decide +kernel)) rfl, rfl, rfl, by decide⟩
  · cases h; exact ⟨⟨ok_Layer_init, Or.inl (List.mem_filter.mpr ⟨List.mem_of_getElem? (i := 273) (by decide +kernel), rfl⟩), by decide +kernel, by decide⟩, TT_t (List.mem_of_getElem? (i := 274) (by decide +kernel)) rfl, rfl, rfl, by decide⟩
  · cases h; exact ⟨⟨ok_MD_init, Or.inr (TT_t (List.mem_of_getElem? (i := 683) (by decide +kernel)) rfl), by decide +kernel, by decide⟩, TT_t (List.mem_of_getElem? (i := 684) (by decide +kernel)) rfl, rfl, rfl, by decide⟩
  · cases h
set_option maxRecDepth 100000 in
theorem kob_w {own idx : Nat} (h : kob own idx = true) : Cond.methodLink (cn own) idx objectInit ∈ TT := by
  unfold kob at h
  split at h
  · exact TT_t (List.mem_of_getElem? (i := 22) (by decide +kernel)) rfl
  · exact TT_t (List.mem_of_getElem? (i := 31) (by decide +kernel)) rfl
  · exact TT_t (List.mem_of_getElem? (i := 76) (by decide +kernel)) rfl
  · exact TT_t (List.mem_of_getElem? (i := 82) (by decide +kernel)) rfl
  · exact TT_t (List.mem_of_getElem? (i := 121) (by decide +kernel)) rfl
  · exact TT_t (List.mem_of_getElem? (i := 127) (by decide +kernel)) rfl
  · exact TT_t (List.mem_of_getElem? (i := 163) (by decide +kernel)) rfl
  · exact TT_t (List.mem_of_getElem? (i := 169) (by decide +kernel)) rfl
  · exact TT_t (List.mem_of_getElem? (i := 214) (by decide +kernel)) rfl
  · exact TT_t (List.mem_of_getElem? (i := 243) (by decide +kernel)) rfl
  · exact TT_t (List.mem_of_getElem? (i := 276) (by decide +kernel)) rfl
  · exact TT_t (List.mem_of_getElem? (i := 686) (by decide +kernel)) rfl
  · cases h
set_option maxRecDepth 100000 in
theorem kob_c : Cond.instanceMethod objectInit ∈ TT ∧ Cond.code objectInit { data := #[177] } 1 none ∈ TT := ⟨TT_t (List.mem_of_getElem? (i := 23) (by decide +kernel)) rfl, TT_t (List.mem_of_getElem? (i := 24) rfl) rfl⟩
def knf (c : Nat) : Nat := match classes[c]? with
  | some q => q.2.2
  | none => 0
set_option maxRecDepth 100000 in
theorem kin_w {ci : Nat} {q : vw_C} (h : classes[ci]? = some q) : Cond.instantiable (cn ci) q.2.2 ∈ TT ∧ Cond.initialized (cn ci) ∈ TT ∧ q.1 = cn ci := by
  match ci, h with
  | 0, h => cases h; exact ⟨TT_t (List.mem_of_getElem? (i := 165) (by decide +kernel)) rfl, TT_t (List.mem_of_getElem? (i := 8) (by decide +kernel)) rfl, rfl⟩
  | 1, h => cases h; exact ⟨TT_t (List.mem_of_getElem? (i := 159) (by decide +kernel)) rfl, TT_t (List.mem_of_getElem? (i := 7) (by decide +kernel)) rfl, rfl⟩
  | 2, h => cases h; exact ⟨TT_t (List.mem_of_getElem? (i := 272) (by decide +kernel)) rfl, TT_t (List.mem_of_getElem? (i := 11) (by decide +kernel)) rfl, rfl⟩
  | 3, h => cases h; exact ⟨TT_t (List.mem_of_getElem? (i := 123) (by decide +kernel)) rfl, TT_t (List.mem_of_getElem? (i := 6) (by decide +kernel)) rfl, rfl⟩
  | 4, h => cases h; exact ⟨TT_t (List.mem_of_getElem? (i := 72) (by decide +kernel)) rfl, TT_t (List.mem_of_getElem? (i := 3) (by decide +kernel)) rfl, rfl⟩
  | 5, h => cases h; exact ⟨TT_t (List.mem_of_getElem? (i := 117) (by decide +kernel)) rfl, TT_t (List.mem_of_getElem? (i := 5) (by decide +kernel)) rfl, rfl⟩
  | 6, h => cases h; exact ⟨TT_t (List.mem_of_getElem? (i := 239) (by decide +kernel)) rfl, TT_t (List.mem_of_getElem? (i := 10) (by decide +kernel)) rfl, rfl⟩
  | 7, h => cases h; exact ⟨TT_t (List.mem_of_getElem? (i := 210) (by decide +kernel)) rfl, TT_t (List.mem_of_getElem? (i := 9) (by decide +kernel)) rfl, rfl⟩
  | 8, h => cases h; exact ⟨TT_t (List.mem_of_getElem? (i := 27) (by decide +kernel)) rfl, TT_t (List.mem_of_getElem? (i := 2) (by decide +kernel)) rfl, rfl⟩
  | 9, h => cases h; exact ⟨TT_t (List.mem_of_getElem? (i := 78) (by decide +kernel)) rfl, TT_t (List.mem_of_getElem? (i := 4) (by decide +kernel)) rfl, rfl⟩
  | 10, h => cases h; exact ⟨TT_t (List.mem_of_getElem? (i := 18) (by decide +kernel)) rfl, TT_t (List.mem_of_getElem? (i := 1) (by decide +kernel)) rfl, rfl⟩
  | 11, h => cases h; exact ⟨TT_t (List.mem_of_getElem? (i := 682) (by decide +kernel)) rfl, TT_t (List.mem_of_getElem? (i := 12) (by decide +kernel)) rfl, rfl⟩
  | k + 12, h => cases h
set_option maxRecDepth 100000 in
theorem karr_w : Cond.arrayClass .int ∈ TT ∧ Cond.arrayClass .boolean ∈ TT ∧ Cond.arrayClass .long ∈ TT := ⟨TT_t (List.mem_of_getElem? (i := 69) (by decide +kernel)) rfl, TT_t (List.mem_of_getElem? (i := 802) (by decide +kernel)) rfl, TT_t (List.mem_of_getElem? (i := 300) (by decide +kernel)) rfl⟩
def okK (own : Nat) (e : Nat × Nat × Nat × Nat × Bool) : Bool := match classes[e.2.1]? with
  | none => false
  | some q => e.2.1 != own || (decide (Cond.fieldLink (cn own) e.1 (q.2.1 e.2.2.1).1 (q.2.1 e.2.2.1).2.1 (q.2.1 e.2.2.1).2.2.1 ∈ tables_1) && decide ((q.2.1 e.2.2.1).1 = cn own) && decide (e.2.2.1 < q.2.2))
theorem KA_ok : (List.range 12).all (fun own => (FA own).all (okK own)) = true := by decide +kernel
theorem KA_use {own idx j ty : Nat} (h : fre (FA own) idx = some (own, j, ty)) : ∃ q, classes[own]? = some q ∧ j < q.2.2 ∧ Cond.fieldLink (cn own) idx (q.2.1 j).1 (q.2.1 j).2.1 (q.2.1 j).2.2.1 ∈ TT ∧ (q.2.1 j).1 = cn own := by
  obtain ⟨b, hb⟩ := fre_mem h
  by_cases ho : own < 12
  · have h1 := List.all_eq_true.mp (List.all_eq_true.mp KA_ok own (List.mem_range.mpr ho)) _ hb
    unfold okK at h1
    cases hq : classes[own]? with
    | none => simp only [hq] at h1; cases h1
    | some q =>
      simp only [hq, bne_self_eq_false, Bool.false_or, Bool.and_eq_true, decide_eq_true_eq] at h1
      exact ⟨q, rfl, h1.2, TT_t h1.1.1 rfl, h1.1.2⟩
  · rw [FA_out (by omega)] at hb
    cases hb
