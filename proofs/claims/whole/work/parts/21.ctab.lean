-- tables of the constructors
def mX3_init : Mi := ([(0, .aload_n 0, 1), (1, .invokespecial 1, 3), (4, .aload_n 0, 1), (5, .bipush 120, 2), (7, .newarray .int, 2), (9, .putfield 9, 3), (12, .return_, 1)], RX3, 1, 1, none)
theorem okX3_init : MOK yX3_init cX3_init mX3_init := ⟨by decide +kernel, rfl, by decide +kernel⟩
def mX2_init : Mi := ([(0, .aload_n 0, 1), (1, .invokespecial 1, 3), (4, .aload_n 0, 1), (5, .bipush 40, 2), (7, .newarray .int, 2), (9, .putfield 9, 3), (12, .return_, 1)], RX2, 1, 1, none)
theorem okX2_init : MOK yX2_init cX2_init mX2_init := ⟨by decide +kernel, rfl, by decide +kernel⟩
def mX1_init : Mi := ([(0, .aload_n 0, 1), (1, .invokespecial 3, 3), (4, .aload_n 0, 1), (5, .aload_n 1, 1), (6, .putfield 9, 3), (9, .aload_n 0, 1), (10, .aload_n 2, 1), (11, .putfield 15, 3), (14, .return_, 1)], RX1, 1, 3, none)
theorem okX1_init : MOK yX1_init cX1_init mX1_init := ⟨by decide +kernel, rfl, by decide +kernel⟩
def mX0_init : Mi := ([(0, .aload_n 0, 1), (1, .invokespecial 3, 3), (4, .aload_n 0, 1), (5, .bipush 12, 2), (7, .newarray .int, 2), (9, .putfield 11, 3), (12, .aload_n 0, 1), (13, .bipush 8, 2), (15, .newarray .int, 2), (17, .putfield 15, 3), (20, .aload_n 0, 1), (21, .bipush 8, 2), (23, .newarray .int, 2), (25, .putfield 18, 3), (28, .aload_n 0, 1), (29, .bipush 8, 2), (31, .newarray .int, 2), (33, .putfield 21, 3), (36, .aload_n 0, 1), (37, .bipush 8, 2), (39, .newarray .int, 2), (41, .putfield 24, 3), (44, .aload_n 0, 1), (45, .bipush 8, 2), (47, .newarray .int, 2), (49, .putfield 27, 3), (52, .aload_n 0, 1), (53, .bipush 8, 2), (55, .newarray .int, 2), (57, .putfield 30, 3), (60, .aload_n 0, 1), (61, .bipush 10, 2), (63, .newarray .int, 2), (65, .putfield 33, 3), (68, .iconst 0, 1), (69, .istore_n 1, 1), (70, .iload_n 1, 1), (71, .bipush 12, 2), (73, .if_icmp .ge 17, 3), (76, .aload_n 0, 1), (77, .getfield 11, 3), (80, .iload_n 1, 1), (81, .bipush 20, 2), (83, .iastore, 1), (84, .iinc 1 1, 3), (87, .goto (-17), 3), (90, .iconst 0, 1), (91, .istore_n 1, 1), (92, .iload_n 1, 1), (93, .bipush 10, 2), (95, .if_icmp .ge 16, 3), (98, .aload_n 0, 1), (99, .getfield 33, 3), (102, .iload_n 1, 1), (103, .iconst (-1), 1), (104, .iastore, 1), (105, .iinc 1 1, 3), (108, .goto (-16), 3), (111, .aload_n 0, 1), (112, .iconst 2, 1), (113, .putfield 36, 3), (116, .aload_n 0, 1), (117, .bipush 50, 2), (119, .putfield 40, 3), (122, .aload_n 0, 1), (123, .iconst 1, 1), (124, .putfield 43, 3), (127, .return_, 1)], RX0, 1, 2, none)
theorem okX0_init : MOK yX0_init cX0_init mX0_init := ⟨by decide +kernel, rfl, by decide +kernel⟩
def mX5_init : Mi := ([(0, .aload_n 0, 1), (1, .invokespecial 1, 3), (4, .aload_n 0, 1), (5, .bipush 75, 2), (7, .newarray .int, 2), (9, .putfield 7, 3), (12, .aload_n 0, 1), (13, .bipush 75, 2), (15, .newarray .int, 2), (17, .putfield 13, 3), (20, .aload_n 0, 1), (21, .bipush 75, 2), (23, .newarray .int, 2), (25, .putfield 16, 3), (28, .aload_n 0, 1), (29, .bipush 75, 2), (31, .newarray .int, 2), (33, .putfield 19, 3), (36, .aload_n 0, 1), (37, .bipush 8, 2), (39, .newarray .int, 2), (41, .putfield 22, 3), (44, .aload_n 0, 1), (45, .bipush 120, 2), (47, .newarray .int, 2), (49, .putfield 25, 3), (52, .aload_n 0, 1), (53, .iconst 4, 1), (54, .newarray .int, 2), (56, .dup, 1), (57, .iconst 0, 1), (58, .iconst (-1), 1), (59, .iastore, 1), (60, .dup, 1), (61, .iconst 1, 1), (62, .iconst (-1), 1), (63, .iastore, 1), (64, .dup, 1), (65, .iconst 2, 1), (66, .iconst (-1), 1), (67, .iastore, 1), (68, .dup, 1), (69, .iconst 3, 1), (70, .iconst (-1), 1), (71, .iastore, 1), (72, .putfield 28, 3), (75, .aload_n 0, 1), (76, .iconst 4, 1), (77, .newarray .int, 2), (79, .putfield 31, 3), (82, .aload_n 0, 1), (83, .sipush 160, 3), (86, .newarray .int, 2), (88, .putfield 34, 3), (91, .aload_n 0, 1), (92, .getfield 7, 3), (95, .iconst 2, 1), (96, .iconst 1, 1), (97, .iastore, 1), (98, .aload_n 0, 1), (99, .getfield 7, 3), (102, .iconst 3, 1), (103, .iconst 2, 1), (104, .iastore, 1), (105, .aload_n 0, 1), (106, .getfield 7, 3), (109, .iconst 4, 1), (110, .bipush 50, 2), (112, .iastore, 1), (113, .iconst 0, 1), (114, .istore_n 1, 1), (115, .iload_n 1, 1), (116, .bipush 12, 2), (118, .if_icmp .ge 19, 3), (121, .aload_n 0, 1), (122, .getfield 7, 3), (125, .iconst 5, 1), (126, .iload_n 1, 1), (127, .iadd, 1), (128, .bipush 20, 2), (130, .iastore, 1), (131, .iinc 1 1, 3), (134, .goto (-19), 3), (137, .iconst 0, 1), (138, .istore_n 1, 1), (139, .iload_n 1, 1), (140, .bipush 10, 2), (142, .if_icmp .ge 19, 3), (145, .aload_n 0, 1), (146, .getfield 7, 3), (149, .bipush 65, 2), (151, .iload_n 1, 1), (152, .iadd, 1), (153, .iconst (-1), 1), (154, .iastore, 1), (155, .iinc 1 1, 3), (158, .goto (-19), 3), (161, .return_, 1)], RX5, 1, 2, none)
theorem okX5_init : MOK yX5_init cX5_init mX5_init := ⟨by decide +kernel, rfl, by decide +kernel⟩
def mX4_init : Mi := ([(0, .aload_n 0, 1), (1, .invokespecial 3, 3), (4, .aload_n 0, 1), (5, .new 9, 3), (8, .dup, 1), (9, .invokespecial 11, 3), (12, .putfield 12, 3), (15, .aload_n 0, 1), (16, .new 9, 3), (19, .dup, 1), (20, .invokespecial 11, 3), (23, .putfield 16, 3), (26, .aload_n 0, 1), (27, .new 9, 3), (30, .dup, 1), (31, .invokespecial 11, 3), (34, .putfield 19, 3), (37, .aload_n 0, 1), (38, .iconst 0, 1), (39, .putfield 22, 3), (42, .aload_n 0, 1), (43, .new 26, 3), (46, .dup, 1), (47, .invokespecial 28, 3), (50, .putfield 29, 3), (53, .aload_n 0, 1), (54, .new 33, 3), (57, .dup, 1), (58, .aload_n 0, 1), (59, .getfield 29, 3), (62, .aload_n 0, 1), (63, .getfield 16, 3), (66, .invokespecial 35, 3), (69, .putfield 38, 3), (72, .aload_n 0, 1), (73, .iconst 4, 1), (74, .anewarray 42, 3), (77, .putfield 44, 3), (80, .iconst 0, 1), (81, .istore_n 1, 1), (82, .iload_n 1, 1), (83, .iconst 4, 1), (84, .if_icmp .ge 22, 3), (87, .aload_n 0, 1), (88, .getfield 44, 3), (91, .iload_n 1, 1), (92, .new 42, 3), (95, .dup, 1), (96, .invokespecial 48, 3), (99, .aastore, 1), (100, .iinc 1 1, 3), (103, .goto (-21), 3), (106, .aload_n 0, 1), (107, .bipush 7, 2), (109, .newarray .int, 2), (111, .putfield 49, 3), (114, .return_, 1)], RX4, 2, 2, none)
theorem okX4_init : MOK yX4_init cX4_init mX4_init := ⟨by decide +kernel, rfl, by decide +kernel⟩
theorem ob_i : Cond.instanceMethod objectInit ∈ TB := tb_mem 87 (by decide +kernel) (by decide +kernel)
theorem ob_c : Cond.code objectInit ⟨#[0xb1]⟩ 1 none ∈ TB := tb_mem 88 (by decide +kernel) (by decide +kernel)
theorem ac_i : Cond.arrayClass .int ∈ TB := tb_mem 153 (by decide +kernel) (by decide +kernel)
theorem ol_RX3 : Cond.methodLink RX3 1 objectInit ∈ TB := tb_mem 159 (by decide +kernel) (by decide +kernel)
theorem fr_RX3_3_0 : FR RX3 3 0 := ⟨RX3, TX3, 2, tyX3, rfl, tyX3_ok, nmX3, rfl, rfl, tyX3 0, tyX3_ok 0 (by decide), fun _ => ⟨rfl, rfl⟩⟩
theorem ol_RX2 : Cond.methodLink RX2 1 objectInit ∈ TB := tb_mem 200 (by decide +kernel) (by decide +kernel)
theorem fr_RX2_2_0 : FR RX2 2 0 := ⟨RX2, TX2, 3, tyX2, rfl, tyX2_ok, nmX2, rfl, rfl, tyX2 0, tyX2_ok 0 (by decide), fun _ => ⟨rfl, rfl⟩⟩
theorem ol_RX1 : Cond.methodLink RX1 3 objectInit ∈ TB := tb_mem 174 (by decide +kernel) (by decide +kernel)
theorem fr_RX1_1_0 : FR RX1 1 0 := ⟨RX1, TX1, 6, tyX1, rfl, tyX1_ok, nmX1, rfl, rfl, tyX1 0, tyX1_ok 0 (by decide), fun _ => ⟨rfl, rfl⟩⟩
theorem fr_RX1_1_1 : FR RX1 1 1 := ⟨RX1, TX1, 6, tyX1, rfl, tyX1_ok, nmX1, rfl, rfl, tyX1 1, tyX1_ok 1 (by decide), fun _ => ⟨rfl, rfl⟩⟩
theorem ol_RX0 : Cond.methodLink RX0 3 objectInit ∈ TB := tb_mem 94 (by decide +kernel) (by decide +kernel)
theorem fr_RX0_0_0 : FR RX0 0 0 := ⟨RX0, TX0, 14, tyX0, rfl, tyX0_ok, nmX0, rfl, rfl, tyX0 0, tyX0_ok 0 (by decide), fun _ => ⟨rfl, rfl⟩⟩
theorem fr_RX0_0_1 : FR RX0 0 1 := ⟨RX0, TX0, 14, tyX0, rfl, tyX0_ok, nmX0, rfl, rfl, tyX0 1, tyX0_ok 1 (by decide), fun _ => ⟨rfl, rfl⟩⟩
theorem fr_RX0_0_2 : FR RX0 0 2 := ⟨RX0, TX0, 14, tyX0, rfl, tyX0_ok, nmX0, rfl, rfl, tyX0 2, tyX0_ok 2 (by decide), fun _ => ⟨rfl, rfl⟩⟩
theorem fr_RX0_0_3 : FR RX0 0 3 := ⟨RX0, TX0, 14, tyX0, rfl, tyX0_ok, nmX0, rfl, rfl, tyX0 3, tyX0_ok 3 (by decide), fun _ => ⟨rfl, rfl⟩⟩
theorem fr_RX0_0_4 : FR RX0 0 4 := ⟨RX0, TX0, 14, tyX0, rfl, tyX0_ok, nmX0, rfl, rfl, tyX0 4, tyX0_ok 4 (by decide), fun _ => ⟨rfl, rfl⟩⟩
theorem fr_RX0_0_5 : FR RX0 0 5 := ⟨RX0, TX0, 14, tyX0, rfl, tyX0_ok, nmX0, rfl, rfl, tyX0 5, tyX0_ok 5 (by decide), fun _ => ⟨rfl, rfl⟩⟩
theorem fr_RX0_0_6 : FR RX0 0 6 := ⟨RX0, TX0, 14, tyX0, rfl, tyX0_ok, nmX0, rfl, rfl, tyX0 6, tyX0_ok 6 (by decide), fun _ => ⟨rfl, rfl⟩⟩
theorem fr_RX0_0_7 : FR RX0 0 7 := ⟨RX0, TX0, 14, tyX0, rfl, tyX0_ok, nmX0, rfl, rfl, tyX0 7, tyX0_ok 7 (by decide), fun _ => ⟨rfl, rfl⟩⟩
theorem ol_RX5 : Cond.methodLink RX5 1 objectInit ∈ TB := tb_mem 784 (by decide +kernel) (by decide +kernel)
theorem fr_RX5_5_0 : FR RX5 5 0 := ⟨RX5, TX5, 16, tyX5, rfl, tyX5_ok, nmX5, rfl, rfl, tyX5 0, tyX5_ok 0 (by decide), fun _ => ⟨rfl, rfl⟩⟩
theorem fr_RX5_5_1 : FR RX5 5 1 := ⟨RX5, TX5, 16, tyX5, rfl, tyX5_ok, nmX5, rfl, rfl, tyX5 1, tyX5_ok 1 (by decide), fun _ => ⟨rfl, rfl⟩⟩
theorem fr_RX5_5_2 : FR RX5 5 2 := ⟨RX5, TX5, 16, tyX5, rfl, tyX5_ok, nmX5, rfl, rfl, tyX5 2, tyX5_ok 2 (by decide), fun _ => ⟨rfl, rfl⟩⟩
theorem fr_RX5_5_3 : FR RX5 5 3 := ⟨RX5, TX5, 16, tyX5, rfl, tyX5_ok, nmX5, rfl, rfl, tyX5 3, tyX5_ok 3 (by decide), fun _ => ⟨rfl, rfl⟩⟩
theorem fr_RX5_5_5 : FR RX5 5 5 := ⟨RX5, TX5, 16, tyX5, rfl, tyX5_ok, nmX5, rfl, rfl, tyX5 5, tyX5_ok 5 (by decide), fun _ => ⟨rfl, rfl⟩⟩
theorem fr_RX5_5_6 : FR RX5 5 6 := ⟨RX5, TX5, 16, tyX5, rfl, tyX5_ok, nmX5, rfl, rfl, tyX5 6, tyX5_ok 6 (by decide), fun _ => ⟨rfl, rfl⟩⟩
theorem fr_RX5_5_8 : FR RX5 5 8 := ⟨RX5, TX5, 16, tyX5, rfl, tyX5_ok, nmX5, rfl, rfl, tyX5 8, tyX5_ok 8 (by decide), fun _ => ⟨rfl, rfl⟩⟩
theorem fr_RX5_5_9 : FR RX5 5 9 := ⟨RX5, TX5, 16, tyX5, rfl, tyX5_ok, nmX5, rfl, rfl, tyX5 9, tyX5_ok 9 (by decide), fun _ => ⟨rfl, rfl⟩⟩
theorem fr_RX5_5_10 : FR RX5 5 10 := ⟨RX5, TX5, 16, tyX5, rfl, tyX5_ok, nmX5, rfl, rfl, tyX5 10, tyX5_ok 10 (by decide), fun _ => ⟨rfl, rfl⟩⟩
theorem ol_RX4 : Cond.methodLink RX4 3 objectInit ∈ TB := tb_mem 86 (by decide +kernel) (by decide +kernel)
theorem cl_RX4_9 : Cond.classLink RX4 9 RX0 ∈ TB := tb_mem 89 (by decide +kernel) (by decide +kernel)
theorem in_RX0 : Cond.instantiable RX0 14 ∈ TB := tb_mem 90 (by decide +kernel) (by decide +kernel)
theorem iz_RX0 : Cond.initialized RX0 ∈ TB := tb_mem 69 (by decide +kernel) (by decide +kernel)
theorem ml_RX4_11 : Cond.methodLink RX4 11 yX0_init ∈ TB ∨ Cond.methodLinkNest RX4 11 yX0_init RX4 ∈ nestN := Or.inl (tb_mem 91 (by decide +kernel) (by decide +kernel))
theorem ln_X0_init : LN yX0_init cX0_init mX0_init 0 := ⟨tb_mem 69 (by decide +kernel) (by decide +kernel), tb_mem 93 (by decide +kernel) (by decide +kernel), ⟨by decide +kernel, by decide +kernel, by decide +kernel⟩, rfl, tb_mem 92 (by decide +kernel) (by decide +kernel)⟩
theorem fr_RX4_4_0 : FR RX4 4 0 := ⟨RX4, TX4, 8, tyX4, rfl, tyX4_ok, nmX4, rfl, rfl, tyX4 0, tyX4_ok 0 (by decide), fun _ => ⟨rfl, rfl⟩⟩
theorem fr_RX4_4_1 : FR RX4 4 1 := ⟨RX4, TX4, 8, tyX4, rfl, tyX4_ok, nmX4, rfl, rfl, tyX4 1, tyX4_ok 1 (by decide), fun _ => ⟨rfl, rfl⟩⟩
theorem fr_RX4_4_2 : FR RX4 4 2 := ⟨RX4, TX4, 8, tyX4, rfl, tyX4_ok, nmX4, rfl, rfl, tyX4 2, tyX4_ok 2 (by decide), fun _ => ⟨rfl, rfl⟩⟩
theorem cl_RX4_26 : Cond.classLink RX4 26 RX3 ∈ TB := tb_mem 154 (by decide +kernel) (by decide +kernel)
theorem in_RX3 : Cond.instantiable RX3 2 ∈ TB := tb_mem 155 (by decide +kernel) (by decide +kernel)
theorem iz_RX3 : Cond.initialized RX3 ∈ TB := tb_mem 70 (by decide +kernel) (by decide +kernel)
theorem ml_RX4_28 : Cond.methodLink RX4 28 yX3_init ∈ TB ∨ Cond.methodLinkNest RX4 28 yX3_init RX4 ∈ nestN := Or.inr (by simp [nestN])
theorem ln_X3_init : LN yX3_init cX3_init mX3_init 0 := ⟨tb_mem 70 (by decide +kernel) (by decide +kernel), tb_mem 158 (by decide +kernel) (by decide +kernel), ⟨by decide +kernel, by decide +kernel, by decide +kernel⟩, rfl, tb_mem 157 (by decide +kernel) (by decide +kernel)⟩
theorem fr_RX4_4_4 : FR RX4 4 4 := ⟨RX4, TX4, 8, tyX4, rfl, tyX4_ok, nmX4, rfl, rfl, tyX4 4, tyX4_ok 4 (by decide), fun _ => ⟨rfl, rfl⟩⟩
theorem cl_RX4_33 : Cond.classLink RX4 33 RX1 ∈ TB := tb_mem 169 (by decide +kernel) (by decide +kernel)
theorem in_RX1 : Cond.instantiable RX1 6 ∈ TB := tb_mem 170 (by decide +kernel) (by decide +kernel)
theorem iz_RX1 : Cond.initialized RX1 ∈ TB := tb_mem 71 (by decide +kernel) (by decide +kernel)
theorem ml_RX4_35 : Cond.methodLink RX4 35 yX1_init ∈ TB ∨ Cond.methodLinkNest RX4 35 yX1_init RX4 ∈ nestN := Or.inl (tb_mem 171 (by decide +kernel) (by decide +kernel))
theorem ln_X1_init : LN yX1_init cX1_init mX1_init 2 := ⟨tb_mem 71 (by decide +kernel) (by decide +kernel), tb_mem 173 (by decide +kernel) (by decide +kernel), ⟨by decide +kernel, by decide +kernel, by decide +kernel⟩, rfl, tb_mem 172 (by decide +kernel) (by decide +kernel)⟩
theorem fr_RX4_4_5 : FR RX4 4 5 := ⟨RX4, TX4, 8, tyX4, rfl, tyX4_ok, nmX4, rfl, rfl, tyX4 5, tyX4_ok 5 (by decide), fun _ => ⟨rfl, rfl⟩⟩
theorem cl_RX4_42 : Cond.classLink RX4 42 RX2 ∈ TB := tb_mem 194 (by decide +kernel) (by decide +kernel)
theorem in_RX2 : Cond.instantiable RX2 3 ∈ TB := tb_mem 196 (by decide +kernel) (by decide +kernel)
theorem iz_RX2 : Cond.initialized RX2 ∈ TB := tb_mem 72 (by decide +kernel) (by decide +kernel)
theorem fr_RX4_4_6 : FR RX4 4 6 := ⟨RX4, TX4, 8, tyX4, rfl, tyX4_ok, nmX4, rfl, rfl, tyX4 6, tyX4_ok 6 (by decide), fun _ => ⟨rfl, rfl⟩⟩
theorem ml_RX4_48 : Cond.methodLink RX4 48 yX2_init ∈ TB ∨ Cond.methodLinkNest RX4 48 yX2_init RX4 ∈ nestN := Or.inr (by simp [nestN])
theorem ln_X2_init : LN yX2_init cX2_init mX2_init 0 := ⟨tb_mem 72 (by decide +kernel) (by decide +kernel), tb_mem 199 (by decide +kernel) (by decide +kernel), ⟨by decide +kernel, by decide +kernel, by decide +kernel⟩, rfl, tb_mem 198 (by decide +kernel) (by decide +kernel)⟩
theorem fr_RX4_4_7 : FR RX4 4 7 := ⟨RX4, TX4, 8, tyX4, rfl, tyX4_ok, nmX4, rfl, rfl, tyX4 7, tyX4_ok 7 (by decide), fun _ => ⟨rfl, rfl⟩⟩
