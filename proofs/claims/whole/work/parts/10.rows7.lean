-- written by prog/gen_code.py: each instruction is sound
def dl_Md_level : List (Nat × Instr × Nat) := [(0, .iload_n 1, 1), (1, .invokestatic 218, 3), (4, .ifCond .eq 13, 3), (7, .iload_n 2, 1), (8, .ifCond .lt 9, 3), (11, .iload_n 2, 1), (12, .bipush 12, 2), (14, .if_icmp .lt 9, 3), (17, .sipush 1000, 3), (20, .goto 16, 3), (23, .aload_n 0, 1), (24, .aload_n 0, 1), (25, .getfield 63, 3), (28, .bipush 23, 2), (30, .iload_n 1, 1), (31, .imul, 1), (32, .iload_n 2, 1), (33, .invokevirtual 107, 3), (36, .ireturn, 1)]
set_option maxRecDepth 20000 in
theorem dk_Md_level : (dl_Md_level.all fun q => decide (decode prog_10_method_43_code q.1 = .ok (q.2.1, q.2.2))) = true := by decide +kernel
theorem k_Md_level_0 : am_Snd gG mt yMd_level 0 (1, 0, 1, 0, 1, []) := sd_iload_n 0 1 0 [] rfl (da dk_Md_level (k := 0) rfl)
theorem k_Md_level_1 : am_Snd gG mt yMd_level 1 (60, 0, 127, 1, 4, []) := sd_callS 0 127 1 [] mt_127 (da dk_Md_level (k := 1) rfl) gG_ok w_884 (List.forall_mem_cons.2 ⟨w_882, List.forall_mem_cons.2 ⟨w_883, List.forall_mem_cons.2 ⟨w_53, fun _ h => absurd h List.not_mem_nil⟩⟩⟩) hd_127 rfl (Nat.le_of_ble_eq_true rfl) (Nat.le_of_ble_eq_true rfl)
theorem k_Md_level_4 : am_Snd gG mt yMd_level 4 (30, 0, 17, 0, 7, []) := sd_if_eq 0 17 [] (da dk_Md_level (k := 2) rfl) (by decide)
theorem k_Md_level_7 : am_Snd gG mt yMd_level 7 (1, 0, 2, 0, 8, []) := sd_iload_n 0 2 0 [] rfl (da dk_Md_level (k := 3) rfl)
theorem k_Md_level_8 : am_Snd gG mt yMd_level 8 (30, 0, 17, 2, 11, []) := sd_if_lt 0 17 [] (da dk_Md_level (k := 4) rfl) (by decide)
theorem k_Md_level_11 : am_Snd gG mt yMd_level 11 (1, 0, 2, 0, 12, []) := sd_iload_n 0 2 0 [] rfl (da dk_Md_level (k := 5) rfl)
theorem k_Md_level_12 : am_Snd gG mt yMd_level 12 (0, 12, 0, 0, 14, []) := sd_bipush 12 0 0 [] (da dk_Md_level (k := 6) rfl) (by decide)
theorem k_Md_level_14 : am_Snd gG mt yMd_level 14 (31, 0, 23, 2, 17, []) := sd_icmp_lt 0 23 [] (da dk_Md_level (k := 7) rfl) (by decide)
theorem k_Md_level_17 : am_Snd gG mt yMd_level 17 (0, 1000, 0, 0, 20, []) := sd_sipush 1000 0 0 [] (da dk_Md_level (k := 8) rfl) (by decide)
theorem k_Md_level_20 : am_Snd gG mt yMd_level 20 (26, 0, 36, 0, 23, []) := sd_goto 0 36 0 23 [] (da dk_Md_level (k := 9) rfl) (by decide)
theorem k_Md_level_23 : am_Snd gG mt yMd_level 23 (2, 0, 0, 0, 24, []) := sd_aload_n 0 0 0 [] rfl (da dk_Md_level (k := 10) rfl)
theorem k_Md_level_24 : am_Snd gG mt yMd_level 24 (2, 0, 0, 0, 25, []) := sd_aload_n 0 0 0 [] rfl (da dk_Md_level (k := 11) rfl)
theorem k_Md_level_25 : am_Snd gG mt yMd_level 25 (40, 0, 7, 18, 28, []) := sd_getf 0 7 18 [] (da dk_Md_level (k := 12) rfl) rfl (by decide) hin_7 w_668
theorem k_Md_level_28 : am_Snd gG mt yMd_level 28 (0, 23, 0, 0, 30, []) := sd_bipush 23 0 0 [] (da dk_Md_level (k := 13) rfl) (by decide)
theorem k_Md_level_30 : am_Snd gG mt yMd_level 30 (1, 0, 1, 0, 31, []) := sd_iload_n 0 1 0 [] rfl (da dk_Md_level (k := 14) rfl)
theorem k_Md_level_31 : am_Snd gG mt yMd_level 31 (8, 0, 0, 0, 32, []) := sd_imul 0 0 0 [] (da dk_Md_level (k := 15) rfl)
theorem k_Md_level_32 : am_Snd gG mt yMd_level 32 (1, 0, 2, 0, 33, []) := sd_iload_n 0 2 0 [] rfl (da dk_Md_level (k := 16) rfl)
theorem k_Md_level_33 : am_Snd gG mt yMd_level 33 (61, 1, 106, 4, 36, [(0, 7)]) := sd_callV 1 106 4 7 mt_106 (da dk_Md_level (k := 17) rfl) gG_ok rfl w_801 (List.forall_mem_cons.2 ⟨w_798, List.forall_mem_cons.2 ⟨w_800, List.forall_mem_cons.2 ⟨w_26, List.forall_mem_cons.2 ⟨w_53, fun _ h => absurd h List.not_mem_nil⟩⟩⟩⟩) hd_106 (by decide) rfl (Nat.le_of_ble_eq_true rfl) (Nat.le_of_ble_eq_true rfl)
theorem k_Md_level_36 : am_Snd gG mt yMd_level 36 (71, 0, 0, 0, 37, []) := sd_iret 0 0 0 37 [] (da dk_Md_level (k := 18) rfl) rfl
set_option maxRecDepth 20000 in
theorem ks_Md_level : ∀ q ∈ tMd_level, am_Snd gG mt yMd_level q.1 q.2 := List.forall_mem_cons.2 ⟨k_Md_level_0, List.forall_mem_cons.2 ⟨k_Md_level_1, List.forall_mem_cons.2 ⟨k_Md_level_4, List.forall_mem_cons.2 ⟨k_Md_level_7, List.forall_mem_cons.2 ⟨k_Md_level_8, List.forall_mem_cons.2 ⟨k_Md_level_11, List.forall_mem_cons.2 ⟨k_Md_level_12, List.forall_mem_cons.2 ⟨k_Md_level_14, List.forall_mem_cons.2 ⟨k_Md_level_17, List.forall_mem_cons.2 ⟨k_Md_level_20, List.forall_mem_cons.2 ⟨k_Md_level_23, List.forall_mem_cons.2 ⟨k_Md_level_24, List.forall_mem_cons.2 ⟨k_Md_level_25, List.forall_mem_cons.2 ⟨k_Md_level_28, List.forall_mem_cons.2 ⟨k_Md_level_30, List.forall_mem_cons.2 ⟨k_Md_level_31, List.forall_mem_cons.2 ⟨k_Md_level_32, List.forall_mem_cons.2 ⟨k_Md_level_33, List.forall_mem_cons.2 ⟨k_Md_level_36, fun _ h => absurd h List.not_mem_nil⟩⟩⟩⟩⟩⟩⟩⟩⟩⟩⟩⟩⟩⟩⟩⟩⟩⟩⟩
def dl_Md_knows : List (Nat × Instr × Nat) := [(0, .iload_n 1, 1), (1, .invokestatic 218, 3), (4, .ifCond .ne 5, 3), (7, .iconst (-1), 1), (8, .ireturn, 1), (9, .aload_n 0, 1), (10, .iload_n 2, 1), (11, .invokevirtual 221, 3), (14, .ifCond .ne 5, 3), (17, .iconst 0, 1), (18, .ireturn, 1), (19, .aload_n 0, 1), (20, .getfield 54, 3), (23, .sipush 400, 3), (26, .iload_n 1, 1), (27, .imul, 1), (28, .iload_n 2, 1), (29, .iadd, 1), (30, .baload, 1), (31, .ifCond .eq 7, 3), (34, .iconst 1, 1), (35, .goto 23, 3), (38, .aload_n 0, 1), (39, .getfield 57, 3), (42, .sipush 400, 3), (45, .iload_n 1, 1), (46, .imul, 1), (47, .iload_n 2, 1), (48, .iadd, 1), (49, .baload, 1), (50, .ifCond .eq 7, 3), (53, .iconst 2, 1), (54, .goto 4, 3), (57, .iconst 0, 1), (58, .ireturn, 1)]
set_option maxRecDepth 20000 in
theorem dk_Md_knows : (dl_Md_knows.all fun q => decide (decode prog_10_method_44_code q.1 = .ok (q.2.1, q.2.2))) = true := by decide +kernel
theorem k_Md_knows_0 : am_Snd gG mt yMd_knows 0 (1, 0, 1, 0, 1, []) := sd_iload_n 0 1 0 [] rfl (da dk_Md_knows (k := 0) rfl)
theorem k_Md_knows_1 : am_Snd gG mt yMd_knows 1 (60, 0, 127, 1, 4, []) := sd_callS 0 127 1 [] mt_127 (da dk_Md_knows (k := 1) rfl) gG_ok w_884 (List.forall_mem_cons.2 ⟨w_882, List.forall_mem_cons.2 ⟨w_883, List.forall_mem_cons.2 ⟨w_53, fun _ h => absurd h List.not_mem_nil⟩⟩⟩) hd_127 rfl (Nat.le_of_ble_eq_true rfl) (Nat.le_of_ble_eq_true rfl)
theorem k_Md_knows_4 : am_Snd gG mt yMd_knows 4 (30, 0, 9, 1, 7, []) := sd_if_ne 0 9 [] (da dk_Md_knows (k := 2) rfl) (by decide)
theorem k_Md_knows_7 : am_Snd gG mt yMd_knows 7 (0, (-1), 0, 0, 8, []) := sd_iconst (-1) 0 0 [] (da dk_Md_knows (k := 3) rfl)
theorem k_Md_knows_8 : am_Snd gG mt yMd_knows 8 (71, 0, 0, 0, 9, []) := sd_iret 0 0 0 9 [] (da dk_Md_knows (k := 4) rfl) rfl
theorem k_Md_knows_9 : am_Snd gG mt yMd_knows 9 (2, 0, 0, 0, 10, []) := sd_aload_n 0 0 0 [] rfl (da dk_Md_knows (k := 5) rfl)
theorem k_Md_knows_10 : am_Snd gG mt yMd_knows 10 (1, 0, 2, 0, 11, []) := sd_iload_n 0 2 0 [] rfl (da dk_Md_knows (k := 6) rfl)
theorem k_Md_knows_11 : am_Snd gG mt yMd_knows 11 (61, 0, 128, 2, 14, [(0, 7)]) := sd_callV 0 128 2 7 mt_128 (da dk_Md_knows (k := 7) rfl) gG_ok rfl w_888 (List.forall_mem_cons.2 ⟨w_885, List.forall_mem_cons.2 ⟨w_887, List.forall_mem_cons.2 ⟨w_43, List.forall_mem_cons.2 ⟨w_53, fun _ h => absurd h List.not_mem_nil⟩⟩⟩⟩) hd_128 (by decide) rfl (Nat.le_of_ble_eq_true rfl) (Nat.le_of_ble_eq_true rfl)
theorem k_Md_knows_14 : am_Snd gG mt yMd_knows 14 (30, 0, 19, 1, 17, []) := sd_if_ne 0 19 [] (da dk_Md_knows (k := 8) rfl) (by decide)
theorem k_Md_knows_17 : am_Snd gG mt yMd_knows 17 (0, 0, 0, 0, 18, []) := sd_iconst 0 0 0 [] (da dk_Md_knows (k := 9) rfl)
theorem k_Md_knows_18 : am_Snd gG mt yMd_knows 18 (71, 0, 0, 0, 19, []) := sd_iret 0 0 0 19 [] (da dk_Md_knows (k := 10) rfl) rfl
theorem k_Md_knows_19 : am_Snd gG mt yMd_knows 19 (2, 0, 0, 0, 20, []) := sd_aload_n 0 0 0 [] rfl (da dk_Md_knows (k := 11) rfl)
theorem k_Md_knows_20 : am_Snd gG mt yMd_knows 20 (40, 0, 7, 15, 23, []) := sd_getf 0 7 15 [] (da dk_Md_knows (k := 12) rfl) rfl (by decide) hin_7 w_665
theorem k_Md_knows_23 : am_Snd gG mt yMd_knows 23 (0, 400, 0, 0, 26, []) := sd_sipush 400 0 0 [] (da dk_Md_knows (k := 13) rfl) (by decide)
theorem k_Md_knows_26 : am_Snd gG mt yMd_knows 26 (1, 0, 1, 0, 27, []) := sd_iload_n 0 1 0 [] rfl (da dk_Md_knows (k := 14) rfl)
theorem k_Md_knows_27 : am_Snd gG mt yMd_knows 27 (8, 0, 0, 0, 28, []) := sd_imul 0 0 0 [] (da dk_Md_knows (k := 15) rfl)
theorem k_Md_knows_28 : am_Snd gG mt yMd_knows 28 (1, 0, 2, 0, 29, []) := sd_iload_n 0 2 0 [] rfl (da dk_Md_knows (k := 16) rfl)
theorem k_Md_knows_29 : am_Snd gG mt yMd_knows 29 (6, 0, 0, 0, 30, []) := sd_iadd 0 0 0 [] (da dk_Md_knows (k := 17) rfl)
theorem k_Md_knows_30 : am_Snd gG mt yMd_knows 30 (42, 0, 1, 0, 31, []) := sd_bald 0 1 0 [] (da dk_Md_knows (k := 18) rfl) rfl rfl
theorem k_Md_knows_31 : am_Snd gG mt yMd_knows 31 (30, 0, 38, 0, 34, []) := sd_if_eq 0 38 [] (da dk_Md_knows (k := 19) rfl) (by decide)
theorem k_Md_knows_34 : am_Snd gG mt yMd_knows 34 (0, 1, 0, 0, 35, []) := sd_iconst 1 0 0 [] (da dk_Md_knows (k := 20) rfl)
theorem k_Md_knows_35 : am_Snd gG mt yMd_knows 35 (26, 0, 58, 0, 38, []) := sd_goto 0 58 0 38 [] (da dk_Md_knows (k := 21) rfl) (by decide)
theorem k_Md_knows_38 : am_Snd gG mt yMd_knows 38 (2, 0, 0, 0, 39, []) := sd_aload_n 0 0 0 [] rfl (da dk_Md_knows (k := 22) rfl)
theorem k_Md_knows_39 : am_Snd gG mt yMd_knows 39 (40, 0, 7, 16, 42, []) := sd_getf 0 7 16 [] (da dk_Md_knows (k := 23) rfl) rfl (by decide) hin_7 w_666
theorem k_Md_knows_42 : am_Snd gG mt yMd_knows 42 (0, 400, 0, 0, 45, []) := sd_sipush 400 0 0 [] (da dk_Md_knows (k := 24) rfl) (by decide)
theorem k_Md_knows_45 : am_Snd gG mt yMd_knows 45 (1, 0, 1, 0, 46, []) := sd_iload_n 0 1 0 [] rfl (da dk_Md_knows (k := 25) rfl)
theorem k_Md_knows_46 : am_Snd gG mt yMd_knows 46 (8, 0, 0, 0, 47, []) := sd_imul 0 0 0 [] (da dk_Md_knows (k := 26) rfl)
theorem k_Md_knows_47 : am_Snd gG mt yMd_knows 47 (1, 0, 2, 0, 48, []) := sd_iload_n 0 2 0 [] rfl (da dk_Md_knows (k := 27) rfl)
theorem k_Md_knows_48 : am_Snd gG mt yMd_knows 48 (6, 0, 0, 0, 49, []) := sd_iadd 0 0 0 [] (da dk_Md_knows (k := 28) rfl)
theorem k_Md_knows_49 : am_Snd gG mt yMd_knows 49 (42, 0, 1, 0, 50, []) := sd_bald 0 1 0 [] (da dk_Md_knows (k := 29) rfl) rfl rfl
theorem k_Md_knows_50 : am_Snd gG mt yMd_knows 50 (30, 0, 57, 0, 53, []) := sd_if_eq 0 57 [] (da dk_Md_knows (k := 30) rfl) (by decide)
theorem k_Md_knows_53 : am_Snd gG mt yMd_knows 53 (0, 2, 0, 0, 54, []) := sd_iconst 2 0 0 [] (da dk_Md_knows (k := 31) rfl)
theorem k_Md_knows_54 : am_Snd gG mt yMd_knows 54 (26, 0, 58, 0, 57, []) := sd_goto 0 58 0 57 [] (da dk_Md_knows (k := 32) rfl) (by decide)
theorem k_Md_knows_57 : am_Snd gG mt yMd_knows 57 (0, 0, 0, 0, 58, []) := sd_iconst 0 0 0 [] (da dk_Md_knows (k := 33) rfl)
theorem k_Md_knows_58 : am_Snd gG mt yMd_knows 58 (71, 0, 0, 0, 59, []) := sd_iret 0 0 0 59 [] (da dk_Md_knows (k := 34) rfl) rfl
set_option maxRecDepth 20000 in
theorem ks_Md_knows : ∀ q ∈ tMd_knows, am_Snd gG mt yMd_knows q.1 q.2 := List.forall_mem_cons.2 ⟨k_Md_knows_0, List.forall_mem_cons.2 ⟨k_Md_knows_1, List.forall_mem_cons.2 ⟨k_Md_knows_4, List.forall_mem_cons.2 ⟨k_Md_knows_7, List.forall_mem_cons.2 ⟨k_Md_knows_8, List.forall_mem_cons.2 ⟨k_Md_knows_9, List.forall_mem_cons.2 ⟨k_Md_knows_10, List.forall_mem_cons.2 ⟨k_Md_knows_11, List.forall_mem_cons.2 ⟨k_Md_knows_14, List.forall_mem_cons.2 ⟨k_Md_knows_17, List.forall_mem_cons.2 ⟨k_Md_knows_18, List.forall_mem_cons.2 ⟨k_Md_knows_19, List.forall_mem_cons.2 ⟨k_Md_knows_20, List.forall_mem_cons.2 ⟨k_Md_knows_23, List.forall_mem_cons.2 ⟨k_Md_knows_26, List.forall_mem_cons.2 ⟨k_Md_knows_27, List.forall_mem_cons.2 ⟨k_Md_knows_28, List.forall_mem_cons.2 ⟨k_Md_knows_29, List.forall_mem_cons.2 ⟨k_Md_knows_30, List.forall_mem_cons.2 ⟨k_Md_knows_31, List.forall_mem_cons.2 ⟨k_Md_knows_34, List.forall_mem_cons.2 ⟨k_Md_knows_35, List.forall_mem_cons.2 ⟨k_Md_knows_38, List.forall_mem_cons.2 ⟨k_Md_knows_39, List.forall_mem_cons.2 ⟨k_Md_knows_42, List.forall_mem_cons.2 ⟨k_Md_knows_45, List.forall_mem_cons.2 ⟨k_Md_knows_46, List.forall_mem_cons.2 ⟨k_Md_knows_47, List.forall_mem_cons.2 ⟨k_Md_knows_48, List.forall_mem_cons.2 ⟨k_Md_knows_49, List.forall_mem_cons.2 ⟨k_Md_knows_50, List.forall_mem_cons.2 ⟨k_Md_knows_53, List.forall_mem_cons.2 ⟨k_Md_knows_54, List.forall_mem_cons.2 ⟨k_Md_knows_57, List.forall_mem_cons.2 ⟨k_Md_knows_58, fun _ h => absurd h List.not_mem_nil⟩⟩⟩⟩⟩⟩⟩⟩⟩⟩⟩⟩⟩⟩⟩⟩⟩⟩⟩⟩⟩⟩⟩⟩⟩⟩⟩⟩⟩⟩⟩⟩⟩⟩⟩
def dl_Md_head : List (Nat × Instr × Nat) := [(0, .iload_n 1, 1), (1, .invokestatic 218, 3), (4, .ifCond .ne 5, 3), (7, .iconst (-1), 1), (8, .ireturn, 1), (9, .iconst 0, 1), (10, .istore_n 3, 1), (11, .iconst 0, 1), (12, .istore 4, 2), (14, .iload 4, 2), (16, .aload_n 0, 1), (17, .getfield 131, 3), (20, .if_icmp .ge 33, 3), (23, .aload_n 0, 1), (24, .iload_n 1, 1), (25, .iload 4, 2), (27, .invokevirtual 194, 3), (30, .ifCond .ne 6, 3), (33, .goto 14, 3), (36, .iload_n 3, 1), (37, .iload_n 2, 1), (38, .if_icmp .ne 6, 3), (41, .iload 4, 2), (43, .ireturn, 1), (44, .iinc 3 1, 3), (47, .iinc 4 1, 3), (50, .goto (-36), 3), (53, .bipush (-2), 2), (55, .ireturn, 1)]
set_option maxRecDepth 20000 in
theorem dk_Md_head : (dl_Md_head.all fun q => decide (decode prog_10_method_45_code q.1 = .ok (q.2.1, q.2.2))) = true := by decide +kernel
theorem k_Md_head_0 : am_Snd gG mt yMd_head 0 (1, 0, 1, 0, 1, []) := sd_iload_n 0 1 0 [] rfl (da dk_Md_head (k := 0) rfl)
theorem k_Md_head_1 : am_Snd gG mt yMd_head 1 (60, 0, 127, 1, 4, []) := sd_callS 0 127 1 [] mt_127 (da dk_Md_head (k := 1) rfl) gG_ok w_884 (List.forall_mem_cons.2 ⟨w_882, List.forall_mem_cons.2 ⟨w_883, List.forall_mem_cons.2 ⟨w_53, fun _ h => absurd h List.not_mem_nil⟩⟩⟩) hd_127 rfl (Nat.le_of_ble_eq_true rfl) (Nat.le_of_ble_eq_true rfl)
theorem k_Md_head_4 : am_Snd gG mt yMd_head 4 (30, 0, 9, 1, 7, []) := sd_if_ne 0 9 [] (da dk_Md_head (k := 2) rfl) (by decide)
theorem k_Md_head_7 : am_Snd gG mt yMd_head 7 (0, (-1), 0, 0, 8, []) := sd_iconst (-1) 0 0 [] (da dk_Md_head (k := 3) rfl)
theorem k_Md_head_8 : am_Snd gG mt yMd_head 8 (71, 0, 0, 0, 9, []) := sd_iret 0 0 0 9 [] (da dk_Md_head (k := 4) rfl) rfl
theorem k_Md_head_9 : am_Snd gG mt yMd_head 9 (0, 0, 0, 0, 10, []) := sd_iconst 0 0 0 [] (da dk_Md_head (k := 5) rfl)
theorem k_Md_head_10 : am_Snd gG mt yMd_head 10 (3, 0, 3, 0, 11, []) := sd_istore_n 0 3 0 [] rfl (da dk_Md_head (k := 6) rfl)
theorem k_Md_head_11 : am_Snd gG mt yMd_head 11 (0, 0, 0, 0, 12, []) := sd_iconst 0 0 0 [] (da dk_Md_head (k := 7) rfl)
theorem k_Md_head_12 : am_Snd gG mt yMd_head 12 (3, 0, 4, 0, 14, []) := sd_istore 0 4 0 [] (da dk_Md_head (k := 8) rfl)
theorem k_Md_head_14 : am_Snd gG mt yMd_head 14 (1, 0, 4, 0, 16, []) := sd_iload 0 4 0 [] (da dk_Md_head (k := 9) rfl)
theorem k_Md_head_16 : am_Snd gG mt yMd_head 16 (2, 0, 0, 0, 17, []) := sd_aload_n 0 0 0 [] rfl (da dk_Md_head (k := 10) rfl)
theorem k_Md_head_17 : am_Snd gG mt yMd_head 17 (40, 0, 7, 14, 20, []) := sd_getf 0 7 14 [] (da dk_Md_head (k := 11) rfl) rfl (by decide) hin_7 w_664
theorem k_Md_head_20 : am_Snd gG mt yMd_head 20 (31, 0, 53, 3, 23, []) := sd_icmp_ge 0 53 [] (da dk_Md_head (k := 12) rfl) (by decide)
theorem k_Md_head_23 : am_Snd gG mt yMd_head 23 (2, 0, 0, 0, 24, []) := sd_aload_n 0 0 0 [] rfl (da dk_Md_head (k := 13) rfl)
theorem k_Md_head_24 : am_Snd gG mt yMd_head 24 (1, 0, 1, 0, 25, []) := sd_iload_n 0 1 0 [] rfl (da dk_Md_head (k := 14) rfl)
theorem k_Md_head_25 : am_Snd gG mt yMd_head 25 (1, 0, 4, 0, 27, []) := sd_iload 0 4 0 [] (da dk_Md_head (k := 15) rfl)
theorem k_Md_head_27 : am_Snd gG mt yMd_head 27 (61, 2, 97, 3, 30, [(0, 7)]) := sd_callV 2 97 3 7 mt_97 (da dk_Md_head (k := 16) rfl) gG_ok rfl w_765 (List.forall_mem_cons.2 ⟨w_762, List.forall_mem_cons.2 ⟨w_764, List.forall_mem_cons.2 ⟨w_17, List.forall_mem_cons.2 ⟨w_53, fun _ h => absurd h List.not_mem_nil⟩⟩⟩⟩) hd_97 (by decide) rfl (Nat.le_of_ble_eq_true rfl) (Nat.le_of_ble_eq_true rfl)
theorem k_Md_head_30 : am_Snd gG mt yMd_head 30 (30, 0, 36, 1, 33, []) := sd_if_ne 0 36 [] (da dk_Md_head (k := 17) rfl) (by decide)
theorem k_Md_head_33 : am_Snd gG mt yMd_head 33 (26, 0, 47, 0, 36, []) := sd_goto 0 47 0 36 [] (da dk_Md_head (k := 18) rfl) (by decide)
theorem k_Md_head_36 : am_Snd gG mt yMd_head 36 (1, 0, 3, 0, 37, []) := sd_iload_n 0 3 0 [] rfl (da dk_Md_head (k := 19) rfl)
theorem k_Md_head_37 : am_Snd gG mt yMd_head 37 (1, 0, 2, 0, 38, []) := sd_iload_n 0 2 0 [] rfl (da dk_Md_head (k := 20) rfl)
theorem k_Md_head_38 : am_Snd gG mt yMd_head 38 (31, 0, 44, 1, 41, []) := sd_icmp_ne 0 44 [] (da dk_Md_head (k := 21) rfl) (by decide)
theorem k_Md_head_41 : am_Snd gG mt yMd_head 41 (1, 0, 4, 0, 43, []) := sd_iload 0 4 0 [] (da dk_Md_head (k := 22) rfl)
theorem k_Md_head_43 : am_Snd gG mt yMd_head 43 (71, 0, 0, 0, 44, []) := sd_iret 0 0 0 44 [] (da dk_Md_head (k := 23) rfl) rfl
theorem k_Md_head_44 : am_Snd gG mt yMd_head 44 (5, 1, 3, 0, 47, []) := sd_iinc 1 3 0 [] (da dk_Md_head (k := 24) rfl)
theorem k_Md_head_47 : am_Snd gG mt yMd_head 47 (5, 1, 4, 0, 50, []) := sd_iinc 1 4 0 [] (da dk_Md_head (k := 25) rfl)
theorem k_Md_head_50 : am_Snd gG mt yMd_head 50 (26, 0, 14, 0, 53, []) := sd_goto 0 14 0 53 [] (da dk_Md_head (k := 26) rfl) (by decide)
theorem k_Md_head_53 : am_Snd gG mt yMd_head 53 (0, (-2), 0, 0, 55, []) := sd_bipush (-2) 0 0 [] (da dk_Md_head (k := 27) rfl) (by decide)
theorem k_Md_head_55 : am_Snd gG mt yMd_head 55 (71, 0, 0, 0, 56, []) := sd_iret 0 0 0 56 [] (da dk_Md_head (k := 28) rfl) rfl
set_option maxRecDepth 20000 in
theorem ks_Md_head : ∀ q ∈ tMd_head, am_Snd gG mt yMd_head q.1 q.2 := List.forall_mem_cons.2 ⟨k_Md_head_0, List.forall_mem_cons.2 ⟨k_Md_head_1, List.forall_mem_cons.2 ⟨k_Md_head_4, List.forall_mem_cons.2 ⟨k_Md_head_7, List.forall_mem_cons.2 ⟨k_Md_head_8, List.forall_mem_cons.2 ⟨k_Md_head_9, List.forall_mem_cons.2 ⟨k_Md_head_10, List.forall_mem_cons.2 ⟨k_Md_head_11, List.forall_mem_cons.2 ⟨k_Md_head_12, List.forall_mem_cons.2 ⟨k_Md_head_14, List.forall_mem_cons.2 ⟨k_Md_head_16, List.forall_mem_cons.2 ⟨k_Md_head_17, List.forall_mem_cons.2 ⟨k_Md_head_20, List.forall_mem_cons.2 ⟨k_Md_head_23, List.forall_mem_cons.2 ⟨k_Md_head_24, List.forall_mem_cons.2 ⟨k_Md_head_25, List.forall_mem_cons.2 ⟨k_Md_head_27, List.forall_mem_cons.2 ⟨k_Md_head_30, List.forall_mem_cons.2 ⟨k_Md_head_33, List.forall_mem_cons.2 ⟨k_Md_head_36, List.forall_mem_cons.2 ⟨k_Md_head_37, List.forall_mem_cons.2 ⟨k_Md_head_38, List.forall_mem_cons.2 ⟨k_Md_head_41, List.forall_mem_cons.2 ⟨k_Md_head_43, List.forall_mem_cons.2 ⟨k_Md_head_44, List.forall_mem_cons.2 ⟨k_Md_head_47, List.forall_mem_cons.2 ⟨k_Md_head_50, List.forall_mem_cons.2 ⟨k_Md_head_53, List.forall_mem_cons.2 ⟨k_Md_head_55, fun _ h => absurd h List.not_mem_nil⟩⟩⟩⟩⟩⟩⟩⟩⟩⟩⟩⟩⟩⟩⟩⟩⟩⟩⟩⟩⟩⟩⟩⟩⟩⟩⟩⟩⟩
def dl_Md_count : List (Nat × Instr × Nat) := [(0, .iload_n 1, 1), (1, .invokestatic 218, 3), (4, .ifCond .eq 12, 3), (7, .iload_n 2, 1), (8, .ifCond .lt 8, 3), (11, .iload_n 2, 1), (12, .iconst 3, 1), (13, .if_icmp .le 5, 3), (16, .iconst (-1), 1), (17, .ireturn, 1), (18, .iconst 0, 1), (19, .istore_n 3, 1), (20, .iload_n 2, 1), (21, .iconst 3, 1), (22, .if_icmp .ne 44, 3), (25, .iconst 0, 1), (26, .istore 4, 2), (28, .iload 4, 2), (30, .bipush 23, 2), (32, .if_icmp .ge 32, 3), (35, .iload_n 3, 1), (36, .aload_n 0, 1), (37, .getfield 63, 3), (40, .bipush 23, 2), (42, .iload_n 1, 1), (43, .imul, 1), (44, .iload 4, 2), (46, .iadd, 1), (47, .iaload, 1), (48, .ifCond .lt 7, 3), (51, .iconst 1, 1), (52, .goto 4, 3), (55, .iconst 0, 1), (56, .iadd, 1), (57, .istore_n 3, 1), (58, .iinc 4 1, 3), (61, .goto (-33), 3), (64, .iload_n 3, 1), (65, .ireturn, 1), (66, .iconst 0, 1), (67, .istore 4, 2), (69, .iload 4, 2), (71, .aload_n 0, 1), (72, .getfield 131, 3), (75, .if_icmp .ge 74, 3), (78, .iload_n 3, 1), (79, .iload_n 2, 1), (80, .ifCond .ne 22, 3), (83, .aload_n 0, 1), (84, .getfield 54, 3), (87, .sipush 400, 3), (90, .iload_n 1, 1), (91, .imul, 1), (92, .iload 4, 2), (94, .iadd, 1), (95, .baload, 1), (96, .ifCond .eq 44, 3), (99, .goto 37, 3), (102, .iload_n 2, 1), (103, .iconst 1, 1), (104, .if_icmp .ne 22, 3), (107, .aload_n 0, 1), (108, .getfield 57, 3), (111, .sipush 400, 3), (114, .iload_n 1, 1), (115, .imul, 1), (116, .iload 4, 2), (118, .iadd, 1), (119, .baload, 1), (120, .ifCond .eq 20, 3), (123, .goto 13, 3), (126, .aload_n 0, 1), (127, .iload_n 1, 1), (128, .iload 4, 2), (130, .invokevirtual 194, 3), (133, .ifCond .eq 7, 3), (136, .iconst 1, 1), (137, .goto 4, 3), (140, .iconst 0, 1), (141, .iadd, 1), (142, .istore_n 3, 1), (143, .iinc 4 1, 3), (146, .goto (-77), 3), (149, .iload_n 3, 1), (150, .ireturn, 1)]
set_option maxRecDepth 20000 in
theorem dk_Md_count : (dl_Md_count.all fun q => decide (decode prog_10_method_46_code q.1 = .ok (q.2.1, q.2.2))) = true := by decide +kernel
theorem k_Md_count_0 : am_Snd gG mt yMd_count 0 (1, 0, 1, 0, 1, []) := sd_iload_n 0 1 0 [] rfl (da dk_Md_count (k := 0) rfl)
theorem k_Md_count_1 : am_Snd gG mt yMd_count 1 (60, 0, 127, 1, 4, []) := sd_callS 0 127 1 [] mt_127 (da dk_Md_count (k := 1) rfl) gG_ok w_884 (List.forall_mem_cons.2 ⟨w_882, List.forall_mem_cons.2 ⟨w_883, List.forall_mem_cons.2 ⟨w_53, fun _ h => absurd h List.not_mem_nil⟩⟩⟩) hd_127 rfl (Nat.le_of_ble_eq_true rfl) (Nat.le_of_ble_eq_true rfl)
theorem k_Md_count_4 : am_Snd gG mt yMd_count 4 (30, 0, 16, 0, 7, []) := sd_if_eq 0 16 [] (da dk_Md_count (k := 2) rfl) (by decide)
theorem k_Md_count_7 : am_Snd gG mt yMd_count 7 (1, 0, 2, 0, 8, []) := sd_iload_n 0 2 0 [] rfl (da dk_Md_count (k := 3) rfl)
theorem k_Md_count_8 : am_Snd gG mt yMd_count 8 (30, 0, 16, 2, 11, []) := sd_if_lt 0 16 [] (da dk_Md_count (k := 4) rfl) (by decide)
theorem k_Md_count_11 : am_Snd gG mt yMd_count 11 (1, 0, 2, 0, 12, []) := sd_iload_n 0 2 0 [] rfl (da dk_Md_count (k := 5) rfl)
theorem k_Md_count_12 : am_Snd gG mt yMd_count 12 (0, 3, 0, 0, 13, []) := sd_iconst 3 0 0 [] (da dk_Md_count (k := 6) rfl)
theorem k_Md_count_13 : am_Snd gG mt yMd_count 13 (31, 0, 18, 5, 16, []) := sd_icmp_le 0 18 [] (da dk_Md_count (k := 7) rfl) (by decide)
theorem k_Md_count_16 : am_Snd gG mt yMd_count 16 (0, (-1), 0, 0, 17, []) := sd_iconst (-1) 0 0 [] (da dk_Md_count (k := 8) rfl)
theorem k_Md_count_17 : am_Snd gG mt yMd_count 17 (71, 0, 0, 0, 18, []) := sd_iret 0 0 0 18 [] (da dk_Md_count (k := 9) rfl) rfl
theorem k_Md_count_18 : am_Snd gG mt yMd_count 18 (0, 0, 0, 0, 19, []) := sd_iconst 0 0 0 [] (da dk_Md_count (k := 10) rfl)
theorem k_Md_count_19 : am_Snd gG mt yMd_count 19 (3, 0, 3, 0, 20, []) := sd_istore_n 0 3 0 [] rfl (da dk_Md_count (k := 11) rfl)
theorem k_Md_count_20 : am_Snd gG mt yMd_count 20 (1, 0, 2, 0, 21, []) := sd_iload_n 0 2 0 [] rfl (da dk_Md_count (k := 12) rfl)
theorem k_Md_count_21 : am_Snd gG mt yMd_count 21 (0, 3, 0, 0, 22, []) := sd_iconst 3 0 0 [] (da dk_Md_count (k := 13) rfl)
theorem k_Md_count_22 : am_Snd gG mt yMd_count 22 (31, 0, 66, 1, 25, []) := sd_icmp_ne 0 66 [] (da dk_Md_count (k := 14) rfl) (by decide)
theorem k_Md_count_25 : am_Snd gG mt yMd_count 25 (0, 0, 0, 0, 26, []) := sd_iconst 0 0 0 [] (da dk_Md_count (k := 15) rfl)
theorem k_Md_count_26 : am_Snd gG mt yMd_count 26 (3, 0, 4, 0, 28, []) := sd_istore 0 4 0 [] (da dk_Md_count (k := 16) rfl)
theorem k_Md_count_28 : am_Snd gG mt yMd_count 28 (1, 0, 4, 0, 30, []) := sd_iload 0 4 0 [] (da dk_Md_count (k := 17) rfl)
theorem k_Md_count_30 : am_Snd gG mt yMd_count 30 (0, 23, 0, 0, 32, []) := sd_bipush 23 0 0 [] (da dk_Md_count (k := 18) rfl) (by decide)
theorem k_Md_count_32 : am_Snd gG mt yMd_count 32 (31, 0, 64, 3, 35, []) := sd_icmp_ge 0 64 [] (da dk_Md_count (k := 19) rfl) (by decide)
theorem k_Md_count_35 : am_Snd gG mt yMd_count 35 (1, 0, 3, 0, 36, []) := sd_iload_n 0 3 0 [] rfl (da dk_Md_count (k := 20) rfl)
theorem k_Md_count_36 : am_Snd gG mt yMd_count 36 (2, 0, 0, 0, 37, []) := sd_aload_n 0 0 0 [] rfl (da dk_Md_count (k := 21) rfl)
theorem k_Md_count_37 : am_Snd gG mt yMd_count 37 (40, 0, 7, 18, 40, []) := sd_getf 0 7 18 [] (da dk_Md_count (k := 22) rfl) rfl (by decide) hin_7 w_668
theorem k_Md_count_40 : am_Snd gG mt yMd_count 40 (0, 23, 0, 0, 42, []) := sd_bipush 23 0 0 [] (da dk_Md_count (k := 23) rfl) (by decide)
theorem k_Md_count_42 : am_Snd gG mt yMd_count 42 (1, 0, 1, 0, 43, []) := sd_iload_n 0 1 0 [] rfl (da dk_Md_count (k := 24) rfl)
theorem k_Md_count_43 : am_Snd gG mt yMd_count 43 (8, 0, 0, 0, 44, []) := sd_imul 0 0 0 [] (da dk_Md_count (k := 25) rfl)
theorem k_Md_count_44 : am_Snd gG mt yMd_count 44 (1, 0, 4, 0, 46, []) := sd_iload 0 4 0 [] (da dk_Md_count (k := 26) rfl)
theorem k_Md_count_46 : am_Snd gG mt yMd_count 46 (6, 0, 0, 0, 47, []) := sd_iadd 0 0 0 [] (da dk_Md_count (k := 27) rfl)
theorem k_Md_count_47 : am_Snd gG mt yMd_count 47 (42, 0, 0, 0, 48, []) := sd_iald 0 0 0 [] (da dk_Md_count (k := 28) rfl) rfl rfl
theorem k_Md_count_48 : am_Snd gG mt yMd_count 48 (30, 0, 55, 2, 51, []) := sd_if_lt 0 55 [] (da dk_Md_count (k := 29) rfl) (by decide)
theorem k_Md_count_51 : am_Snd gG mt yMd_count 51 (0, 1, 0, 0, 52, []) := sd_iconst 1 0 0 [] (da dk_Md_count (k := 30) rfl)
theorem k_Md_count_52 : am_Snd gG mt yMd_count 52 (26, 0, 56, 0, 55, []) := sd_goto 0 56 0 55 [] (da dk_Md_count (k := 31) rfl) (by decide)
theorem k_Md_count_55 : am_Snd gG mt yMd_count 55 (0, 0, 0, 0, 56, []) := sd_iconst 0 0 0 [] (da dk_Md_count (k := 32) rfl)
theorem k_Md_count_56 : am_Snd gG mt yMd_count 56 (6, 0, 0, 0, 57, []) := sd_iadd 0 0 0 [] (da dk_Md_count (k := 33) rfl)
theorem k_Md_count_57 : am_Snd gG mt yMd_count 57 (3, 0, 3, 0, 58, []) := sd_istore_n 0 3 0 [] rfl (da dk_Md_count (k := 34) rfl)
theorem k_Md_count_58 : am_Snd gG mt yMd_count 58 (5, 1, 4, 0, 61, []) := sd_iinc 1 4 0 [] (da dk_Md_count (k := 35) rfl)
theorem k_Md_count_61 : am_Snd gG mt yMd_count 61 (26, 0, 28, 0, 64, []) := sd_goto 0 28 0 64 [] (da dk_Md_count (k := 36) rfl) (by decide)
theorem k_Md_count_64 : am_Snd gG mt yMd_count 64 (1, 0, 3, 0, 65, []) := sd_iload_n 0 3 0 [] rfl (da dk_Md_count (k := 37) rfl)
theorem k_Md_count_65 : am_Snd gG mt yMd_count 65 (71, 0, 0, 0, 66, []) := sd_iret 0 0 0 66 [] (da dk_Md_count (k := 38) rfl) rfl
theorem k_Md_count_66 : am_Snd gG mt yMd_count 66 (0, 0, 0, 0, 67, []) := sd_iconst 0 0 0 [] (da dk_Md_count (k := 39) rfl)
theorem k_Md_count_67 : am_Snd gG mt yMd_count 67 (3, 0, 4, 0, 69, []) := sd_istore 0 4 0 [] (da dk_Md_count (k := 40) rfl)
theorem k_Md_count_69 : am_Snd gG mt yMd_count 69 (1, 0, 4, 0, 71, []) := sd_iload 0 4 0 [] (da dk_Md_count (k := 41) rfl)
theorem k_Md_count_71 : am_Snd gG mt yMd_count 71 (2, 0, 0, 0, 72, []) := sd_aload_n 0 0 0 [] rfl (da dk_Md_count (k := 42) rfl)
theorem k_Md_count_72 : am_Snd gG mt yMd_count 72 (40, 0, 7, 14, 75, []) := sd_getf 0 7 14 [] (da dk_Md_count (k := 43) rfl) rfl (by decide) hin_7 w_664
theorem k_Md_count_75 : am_Snd gG mt yMd_count 75 (31, 0, 149, 3, 78, []) := sd_icmp_ge 0 149 [] (da dk_Md_count (k := 44) rfl) (by decide)
theorem k_Md_count_78 : am_Snd gG mt yMd_count 78 (1, 0, 3, 0, 79, []) := sd_iload_n 0 3 0 [] rfl (da dk_Md_count (k := 45) rfl)
theorem k_Md_count_79 : am_Snd gG mt yMd_count 79 (1, 0, 2, 0, 80, []) := sd_iload_n 0 2 0 [] rfl (da dk_Md_count (k := 46) rfl)
theorem k_Md_count_80 : am_Snd gG mt yMd_count 80 (30, 0, 102, 1, 83, []) := sd_if_ne 0 102 [] (da dk_Md_count (k := 47) rfl) (by decide)
theorem k_Md_count_83 : am_Snd gG mt yMd_count 83 (2, 0, 0, 0, 84, []) := sd_aload_n 0 0 0 [] rfl (da dk_Md_count (k := 48) rfl)
theorem k_Md_count_84 : am_Snd gG mt yMd_count 84 (40, 0, 7, 15, 87, []) := sd_getf 0 7 15 [] (da dk_Md_count (k := 49) rfl) rfl (by decide) hin_7 w_665
theorem k_Md_count_87 : am_Snd gG mt yMd_count 87 (0, 400, 0, 0, 90, []) := sd_sipush 400 0 0 [] (da dk_Md_count (k := 50) rfl) (by decide)
theorem k_Md_count_90 : am_Snd gG mt yMd_count 90 (1, 0, 1, 0, 91, []) := sd_iload_n 0 1 0 [] rfl (da dk_Md_count (k := 51) rfl)
theorem k_Md_count_91 : am_Snd gG mt yMd_count 91 (8, 0, 0, 0, 92, []) := sd_imul 0 0 0 [] (da dk_Md_count (k := 52) rfl)
theorem k_Md_count_92 : am_Snd gG mt yMd_count 92 (1, 0, 4, 0, 94, []) := sd_iload 0 4 0 [] (da dk_Md_count (k := 53) rfl)
theorem k_Md_count_94 : am_Snd gG mt yMd_count 94 (6, 0, 0, 0, 95, []) := sd_iadd 0 0 0 [] (da dk_Md_count (k := 54) rfl)
theorem k_Md_count_95 : am_Snd gG mt yMd_count 95 (42, 0, 1, 0, 96, []) := sd_bald 0 1 0 [] (da dk_Md_count (k := 55) rfl) rfl rfl
theorem k_Md_count_96 : am_Snd gG mt yMd_count 96 (30, 0, 140, 0, 99, []) := sd_if_eq 0 140 [] (da dk_Md_count (k := 56) rfl) (by decide)
theorem k_Md_count_99 : am_Snd gG mt yMd_count 99 (26, 0, 136, 0, 102, []) := sd_goto 0 136 0 102 [] (da dk_Md_count (k := 57) rfl) (by decide)
theorem k_Md_count_102 : am_Snd gG mt yMd_count 102 (1, 0, 2, 0, 103, []) := sd_iload_n 0 2 0 [] rfl (da dk_Md_count (k := 58) rfl)
theorem k_Md_count_103 : am_Snd gG mt yMd_count 103 (0, 1, 0, 0, 104, []) := sd_iconst 1 0 0 [] (da dk_Md_count (k := 59) rfl)
theorem k_Md_count_104 : am_Snd gG mt yMd_count 104 (31, 0, 126, 1, 107, []) := sd_icmp_ne 0 126 [] (da dk_Md_count (k := 60) rfl) (by decide)
theorem k_Md_count_107 : am_Snd gG mt yMd_count 107 (2, 0, 0, 0, 108, []) := sd_aload_n 0 0 0 [] rfl (da dk_Md_count (k := 61) rfl)
theorem k_Md_count_108 : am_Snd gG mt yMd_count 108 (40, 0, 7, 16, 111, []) := sd_getf 0 7 16 [] (da dk_Md_count (k := 62) rfl) rfl (by decide) hin_7 w_666
theorem k_Md_count_111 : am_Snd gG mt yMd_count 111 (0, 400, 0, 0, 114, []) := sd_sipush 400 0 0 [] (da dk_Md_count (k := 63) rfl) (by decide)
theorem k_Md_count_114 : am_Snd gG mt yMd_count 114 (1, 0, 1, 0, 115, []) := sd_iload_n 0 1 0 [] rfl (da dk_Md_count (k := 64) rfl)
theorem k_Md_count_115 : am_Snd gG mt yMd_count 115 (8, 0, 0, 0, 116, []) := sd_imul 0 0 0 [] (da dk_Md_count (k := 65) rfl)
theorem k_Md_count_116 : am_Snd gG mt yMd_count 116 (1, 0, 4, 0, 118, []) := sd_iload 0 4 0 [] (da dk_Md_count (k := 66) rfl)
theorem k_Md_count_118 : am_Snd gG mt yMd_count 118 (6, 0, 0, 0, 119, []) := sd_iadd 0 0 0 [] (da dk_Md_count (k := 67) rfl)
theorem k_Md_count_119 : am_Snd gG mt yMd_count 119 (42, 0, 1, 0, 120, []) := sd_bald 0 1 0 [] (da dk_Md_count (k := 68) rfl) rfl rfl
theorem k_Md_count_120 : am_Snd gG mt yMd_count 120 (30, 0, 140, 0, 123, []) := sd_if_eq 0 140 [] (da dk_Md_count (k := 69) rfl) (by decide)
theorem k_Md_count_123 : am_Snd gG mt yMd_count 123 (26, 0, 136, 0, 126, []) := sd_goto 0 136 0 126 [] (da dk_Md_count (k := 70) rfl) (by decide)
theorem k_Md_count_126 : am_Snd gG mt yMd_count 126 (2, 0, 0, 0, 127, []) := sd_aload_n 0 0 0 [] rfl (da dk_Md_count (k := 71) rfl)
theorem k_Md_count_127 : am_Snd gG mt yMd_count 127 (1, 0, 1, 0, 128, []) := sd_iload_n 0 1 0 [] rfl (da dk_Md_count (k := 72) rfl)
theorem k_Md_count_128 : am_Snd gG mt yMd_count 128 (1, 0, 4, 0, 130, []) := sd_iload 0 4 0 [] (da dk_Md_count (k := 73) rfl)
theorem k_Md_count_130 : am_Snd gG mt yMd_count 130 (61, 2, 97, 3, 133, [(0, 7)]) := sd_callV 2 97 3 7 mt_97 (da dk_Md_count (k := 74) rfl) gG_ok rfl w_765 (List.forall_mem_cons.2 ⟨w_762, List.forall_mem_cons.2 ⟨w_764, List.forall_mem_cons.2 ⟨w_17, List.forall_mem_cons.2 ⟨w_53, fun _ h => absurd h List.not_mem_nil⟩⟩⟩⟩) hd_97 (by decide) rfl (Nat.le_of_ble_eq_true rfl) (Nat.le_of_ble_eq_true rfl)
theorem k_Md_count_133 : am_Snd gG mt yMd_count 133 (30, 0, 140, 0, 136, []) := sd_if_eq 0 140 [] (da dk_Md_count (k := 75) rfl) (by decide)
theorem k_Md_count_136 : am_Snd gG mt yMd_count 136 (0, 1, 0, 0, 137, []) := sd_iconst 1 0 0 [] (da dk_Md_count (k := 76) rfl)
theorem k_Md_count_137 : am_Snd gG mt yMd_count 137 (26, 0, 141, 0, 140, []) := sd_goto 0 141 0 140 [] (da dk_Md_count (k := 77) rfl) (by decide)
theorem k_Md_count_140 : am_Snd gG mt yMd_count 140 (0, 0, 0, 0, 141, []) := sd_iconst 0 0 0 [] (da dk_Md_count (k := 78) rfl)
theorem k_Md_count_141 : am_Snd gG mt yMd_count 141 (6, 0, 0, 0, 142, []) := sd_iadd 0 0 0 [] (da dk_Md_count (k := 79) rfl)
theorem k_Md_count_142 : am_Snd gG mt yMd_count 142 (3, 0, 3, 0, 143, []) := sd_istore_n 0 3 0 [] rfl (da dk_Md_count (k := 80) rfl)
theorem k_Md_count_143 : am_Snd gG mt yMd_count 143 (5, 1, 4, 0, 146, []) := sd_iinc 1 4 0 [] (da dk_Md_count (k := 81) rfl)
theorem k_Md_count_146 : am_Snd gG mt yMd_count 146 (26, 0, 69, 0, 149, []) := sd_goto 0 69 0 149 [] (da dk_Md_count (k := 82) rfl) (by decide)
theorem k_Md_count_149 : am_Snd gG mt yMd_count 149 (1, 0, 3, 0, 150, []) := sd_iload_n 0 3 0 [] rfl (da dk_Md_count (k := 83) rfl)
theorem k_Md_count_150 : am_Snd gG mt yMd_count 150 (71, 0, 0, 0, 151, []) := sd_iret 0 0 0 151 [] (da dk_Md_count (k := 84) rfl) rfl
set_option maxRecDepth 20000 in
theorem ks_Md_count : ∀ q ∈ tMd_count, am_Snd gG mt yMd_count q.1 q.2 := List.forall_mem_cons.2 ⟨k_Md_count_0, List.forall_mem_cons.2 ⟨k_Md_count_1, List.forall_mem_cons.2 ⟨k_Md_count_4, List.forall_mem_cons.2 ⟨k_Md_count_7, List.forall_mem_cons.2 ⟨k_Md_count_8, List.forall_mem_cons.2 ⟨k_Md_count_11, List.forall_mem_cons.2 ⟨k_Md_count_12, List.forall_mem_cons.2 ⟨k_Md_count_13, List.forall_mem_cons.2 ⟨k_Md_count_16, List.forall_mem_cons.2 ⟨k_Md_count_17, List.forall_mem_cons.2 ⟨k_Md_count_18, List.forall_mem_cons.2 ⟨k_Md_count_19, List.forall_mem_cons.2 ⟨k_Md_count_20, List.forall_mem_cons.2 ⟨k_Md_count_21, List.forall_mem_cons.2 ⟨k_Md_count_22, List.forall_mem_cons.2 ⟨k_Md_count_25, List.forall_mem_cons.2 ⟨k_Md_count_26, List.forall_mem_cons.2 ⟨k_Md_count_28, List.forall_mem_cons.2 ⟨k_Md_count_30, List.forall_mem_cons.2 ⟨k_Md_count_32, List.forall_mem_cons.2 ⟨k_Md_count_35, List.forall_mem_cons.2 ⟨k_Md_count_36, List.forall_mem_cons.2 ⟨k_Md_count_37, List.forall_mem_cons.2 ⟨k_Md_count_40, List.forall_mem_cons.2 ⟨k_Md_count_42, List.forall_mem_cons.2 ⟨k_Md_count_43, List.forall_mem_cons.2 ⟨k_Md_count_44, List.forall_mem_cons.2 ⟨k_Md_count_46, List.forall_mem_cons.2 ⟨k_Md_count_47, List.forall_mem_cons.2 ⟨k_Md_count_48, List.forall_mem_cons.2 ⟨k_Md_count_51, List.forall_mem_cons.2 ⟨k_Md_count_52, List.forall_mem_cons.2 ⟨k_Md_count_55, List.forall_mem_cons.2 ⟨k_Md_count_56, List.forall_mem_cons.2 ⟨k_Md_count_57, List.forall_mem_cons.2 ⟨k_Md_count_58, List.forall_mem_cons.2 ⟨k_Md_count_61, List.forall_mem_cons.2 ⟨k_Md_count_64, List.forall_mem_cons.2 ⟨k_Md_count_65, List.forall_mem_cons.2 ⟨k_Md_count_66, List.forall_mem_cons.2 ⟨k_Md_count_67, List.forall_mem_cons.2 ⟨k_Md_count_69, List.forall_mem_cons.2 ⟨k_Md_count_71, List.forall_mem_cons.2 ⟨k_Md_count_72, List.forall_mem_cons.2 ⟨k_Md_count_75, List.forall_mem_cons.2 ⟨k_Md_count_78, List.forall_mem_cons.2 ⟨k_Md_count_79, List.forall_mem_cons.2 ⟨k_Md_count_80, List.forall_mem_cons.2 ⟨k_Md_count_83, List.forall_mem_cons.2 ⟨k_Md_count_84, List.forall_mem_cons.2 ⟨k_Md_count_87, List.forall_mem_cons.2 ⟨k_Md_count_90, List.forall_mem_cons.2 ⟨k_Md_count_91, List.forall_mem_cons.2 ⟨k_Md_count_92, List.forall_mem_cons.2 ⟨k_Md_count_94, List.forall_mem_cons.2 ⟨k_Md_count_95, List.forall_mem_cons.2 ⟨k_Md_count_96, List.forall_mem_cons.2 ⟨k_Md_count_99, List.forall_mem_cons.2 ⟨k_Md_count_102, List.forall_mem_cons.2 ⟨k_Md_count_103, List.forall_mem_cons.2 ⟨k_Md_count_104, List.forall_mem_cons.2 ⟨k_Md_count_107, List.forall_mem_cons.2 ⟨k_Md_count_108, List.forall_mem_cons.2 ⟨k_Md_count_111, List.forall_mem_cons.2 ⟨k_Md_count_114, List.forall_mem_cons.2 ⟨k_Md_count_115, List.forall_mem_cons.2 ⟨k_Md_count_116, List.forall_mem_cons.2 ⟨k_Md_count_118, List.forall_mem_cons.2 ⟨k_Md_count_119, List.forall_mem_cons.2 ⟨k_Md_count_120, List.forall_mem_cons.2 ⟨k_Md_count_123, List.forall_mem_cons.2 ⟨k_Md_count_126, List.forall_mem_cons.2 ⟨k_Md_count_127, List.forall_mem_cons.2 ⟨k_Md_count_128, List.forall_mem_cons.2 ⟨k_Md_count_130, List.forall_mem_cons.2 ⟨k_Md_count_133, List.forall_mem_cons.2 ⟨k_Md_count_136, List.forall_mem_cons.2 ⟨k_Md_count_137, List.forall_mem_cons.2 ⟨k_Md_count_140, List.forall_mem_cons.2 ⟨k_Md_count_141, List.forall_mem_cons.2 ⟨k_Md_count_142, List.forall_mem_cons.2 ⟨k_Md_count_143, List.forall_mem_cons.2 ⟨k_Md_count_146, List.forall_mem_cons.2 ⟨k_Md_count_149, List.forall_mem_cons.2 ⟨k_Md_count_150, fun _ h => absurd h List.not_mem_nil⟩⟩⟩⟩⟩⟩⟩⟩⟩⟩⟩⟩⟩⟩⟩⟩⟩⟩⟩⟩⟩⟩⟩⟩⟩⟩⟩⟩⟩⟩⟩⟩⟩⟩⟩⟩⟩⟩⟩⟩⟩⟩⟩⟩⟩⟩⟩⟩⟩⟩⟩⟩⟩⟩⟩⟩⟩⟩⟩⟩⟩⟩⟩⟩⟩⟩⟩⟩⟩⟩⟩⟩⟩⟩⟩⟩⟩⟩⟩⟩⟩⟩⟩⟩⟩
def dl_Md_events : List (Nat × Instr × Nat) := [(0, .aload_n 0, 1), (1, .getfield 131, 3), (4, .ireturn, 1)]
set_option maxRecDepth 20000 in
theorem dk_Md_events : (dl_Md_events.all fun q => decide (decode prog_10_method_47_code q.1 = .ok (q.2.1, q.2.2))) = true := by decide +kernel
theorem k_Md_events_0 : am_Snd gG mt yMd_events 0 (2, 0, 0, 0, 1, []) := sd_aload_n 0 0 0 [] rfl (da dk_Md_events (k := 0) rfl)
theorem k_Md_events_1 : am_Snd gG mt yMd_events 1 (40, 0, 7, 14, 4, []) := sd_getf 0 7 14 [] (da dk_Md_events (k := 1) rfl) rfl (by decide) hin_7 w_664
theorem k_Md_events_4 : am_Snd gG mt yMd_events 4 (71, 0, 0, 0, 5, []) := sd_iret 0 0 0 5 [] (da dk_Md_events (k := 2) rfl) rfl
set_option maxRecDepth 20000 in
theorem ks_Md_events : ∀ q ∈ tMd_events, am_Snd gG mt yMd_events q.1 q.2 := List.forall_mem_cons.2 ⟨k_Md_events_0, List.forall_mem_cons.2 ⟨k_Md_events_1, List.forall_mem_cons.2 ⟨k_Md_events_4, fun _ h => absurd h List.not_mem_nil⟩⟩⟩
def dl_Lw_law : List (Nat × Instr × Nat) := [(0, .new 7, 3), (3, .dup, 1), (4, .invokespecial 9, 3), (7, .astore_n 1, 1), (8, .new 10, 3), (11, .dup, 1), (12, .invokespecial 12, 3), (15, .astore_n 2, 1), (16, .iconst 0, 1), (17, .istore_n 3, 1), (18, .iload_n 3, 1), (19, .aload_n 0, 1), (20, .arraylength, 1), (21, .bipush 8, 2), (23, .isub, 1), (24, .if_icmp .gt 558, 3), (27, .aload_n 0, 1), (28, .iload_n 3, 1), (29, .iaload, 1), (30, .bipush 15, 2), (32, .iand, 1), (33, .tableswitch 543 0 11 #[63, 126, 213, 246, 279, 322, 365, 398, 431, 464, 497, 530], 63), (96, .aload_n 1, 1), (97, .aload_n 0, 1), (98, .iload_n 3, 1), (99, .iconst 1, 1), (100, .iadd, 1), (101, .iaload, 1), (102, .aload_n 0, 1), (103, .iload_n 3, 1), (104, .iconst 2, 1), (105, .iadd, 1), (106, .iaload, 1), (107, .aload_n 0, 1), (108, .iload_n 3, 1), (109, .iconst 3, 1), (110, .iadd, 1), (111, .iaload, 1), (112, .aload_n 0, 1), (113, .iload_n 3, 1), (114, .iconst 4, 1), (115, .iadd, 1), (116, .iaload, 1), (117, .aload_n 0, 1), (118, .iload_n 3, 1), (119, .iconst 5, 1), (120, .iadd, 1), (121, .iaload, 1), (122, .invokevirtual 13, 3), (125, .aload_n 2, 1), (126, .aload_n 0, 1), (127, .iload_n 3, 1), (128, .iconst 1, 1), (129, .iadd, 1), (130, .iaload, 1), (131, .aload_n 0, 1), (132, .iload_n 3, 1), (133, .iconst 2, 1), (134, .iadd, 1), (135, .iaload, 1), (136, .aload_n 0, 1), (137, .iload_n 3, 1), (138, .iconst 3, 1), (139, .iadd, 1), (140, .iaload, 1), (141, .aload_n 0, 1), (142, .iload_n 3, 1), (143, .iconst 4, 1), (144, .iadd, 1), (145, .iaload, 1), (146, .aload_n 0, 1), (147, .iload_n 3, 1), (148, .iconst 5, 1), (149, .iadd, 1), (150, .iaload, 1), (151, .invokevirtual 17, 3), (154, .if_icmp .eq 422, 3), (157, .iconst 0, 1), (158, .ireturn, 1), (159, .aload_n 1, 1), (160, .aload_n 0, 1), (161, .iload_n 3, 1), (162, .iconst 1, 1), (163, .iadd, 1), (164, .iaload, 1), (165, .aload_n 0, 1), (166, .iload_n 3, 1), (167, .iconst 2, 1), (168, .iadd, 1), (169, .iaload, 1), (170, .aload_n 0, 1), (171, .iload_n 3, 1), (172, .iconst 3, 1), (173, .iadd, 1), (174, .iaload, 1), (175, .aload_n 0, 1), (176, .iload_n 3, 1), (177, .iconst 4, 1), (178, .iadd, 1), (179, .iaload, 1), (180, .aload_n 0, 1), (181, .iload_n 3, 1), (182, .iconst 5, 1), (183, .iadd, 1), (184, .iaload, 1), (185, .aload_n 0, 1), (186, .iload_n 3, 1), (187, .bipush 6, 2), (189, .iadd, 1), (190, .iaload, 1), (191, .aload_n 0, 1), (192, .iload_n 3, 1), (193, .bipush 7, 2), (195, .iadd, 1), (196, .iaload, 1), (197, .invokevirtual 18, 3), (200, .aload_n 2, 1), (201, .aload_n 0, 1), (202, .iload_n 3, 1), (203, .iconst 1, 1), (204, .iadd, 1), (205, .iaload, 1), (206, .aload_n 0, 1), (207, .iload_n 3, 1), (208, .iconst 2, 1), (209, .iadd, 1), (210, .iaload, 1), (211, .aload_n 0, 1), (212, .iload_n 3, 1), (213, .iconst 3, 1), (214, .iadd, 1), (215, .iaload, 1), (216, .aload_n 0, 1), (217, .iload_n 3, 1), (218, .iconst 4, 1), (219, .iadd, 1), (220, .iaload, 1), (221, .aload_n 0, 1), (222, .iload_n 3, 1), (223, .iconst 5, 1), (224, .iadd, 1), (225, .iaload, 1), (226, .aload_n 0, 1), (227, .iload_n 3, 1), (228, .bipush 6, 2), (230, .iadd, 1), (231, .iaload, 1), (232, .aload_n 0, 1), (233, .iload_n 3, 1), (234, .bipush 7, 2), (236, .iadd, 1), (237, .iaload, 1), (238, .invokevirtual 22, 3), (241, .if_icmp .eq 335, 3), (244, .iconst 0, 1), (245, .ireturn, 1), (246, .aload_n 1, 1), (247, .aload_n 0, 1), (248, .iload_n 3, 1), (249, .iconst 1, 1), (250, .iadd, 1), (251, .iaload, 1), (252, .aload_n 0, 1), (253, .iload_n 3, 1), (254, .iconst 2, 1), (255, .iadd, 1), (256, .iaload, 1), (257, .invokevirtual 23, 3), (260, .aload_n 2, 1), (261, .aload_n 0, 1), (262, .iload_n 3, 1), (263, .iconst 1, 1), (264, .iadd, 1), (265, .iaload, 1), (266, .aload_n 0, 1), (267, .iload_n 3, 1), (268, .iconst 2, 1), (269, .iadd, 1), (270, .iaload, 1), (271, .invokevirtual 27, 3), (274, .if_icmp .eq 302, 3), (277, .iconst 0, 1), (278, .ireturn, 1), (279, .aload_n 1, 1), (280, .aload_n 0, 1), (281, .iload_n 3, 1), (282, .iconst 1, 1), (283, .iadd, 1), (284, .iaload, 1), (285, .aload_n 0, 1), (286, .iload_n 3, 1), (287, .iconst 2, 1), (288, .iadd, 1), (289, .iaload, 1), (290, .invokevirtual 28, 3), (293, .aload_n 2, 1), (294, .aload_n 0, 1), (295, .iload_n 3, 1), (296, .iconst 1, 1), (297, .iadd, 1), (298, .iaload, 1), (299, .aload_n 0, 1), (300, .iload_n 3, 1), (301, .iconst 2, 1), (302, .iadd, 1), (303, .iaload, 1), (304, .invokevirtual 31, 3), (307, .if_icmp .eq 269, 3), (310, .iconst 0, 1), (311, .ireturn, 1), (312, .aload_n 1, 1), (313, .aload_n 0, 1), (314, .iload_n 3, 1), (315, .iconst 1, 1), (316, .iadd, 1), (317, .iaload, 1), (318, .aload_n 0, 1), (319, .iload_n 3, 1), (320, .iconst 2, 1), (321, .iadd, 1), (322, .iaload, 1), (323, .aload_n 0, 1), (324, .iload_n 3, 1), (325, .iconst 3, 1), (326, .iadd, 1), (327, .iaload, 1), (328, .invokevirtual 32, 3), (331, .aload_n 2, 1), (332, .aload_n 0, 1), (333, .iload_n 3, 1), (334, .iconst 1, 1), (335, .iadd, 1), (336, .iaload, 1), (337, .aload_n 0, 1), (338, .iload_n 3, 1), (339, .iconst 2, 1), (340, .iadd, 1), (341, .iaload, 1), (342, .aload_n 0, 1), (343, .iload_n 3, 1), (344, .iconst 3, 1), (345, .iadd, 1), (346, .iaload, 1), (347, .invokevirtual 36, 3), (350, .if_icmp .eq 226, 3), (353, .iconst 0, 1), (354, .ireturn, 1), (355, .aload_n 1, 1), (356, .aload_n 0, 1), (357, .iload_n 3, 1), (358, .iconst 1, 1), (359, .iadd, 1), (360, .iaload, 1), (361, .aload_n 0, 1), (362, .iload_n 3, 1), (363, .iconst 2, 1), (364, .iadd, 1), (365, .iaload, 1), (366, .aload_n 0, 1), (367, .iload_n 3, 1), (368, .iconst 3, 1), (369, .iadd, 1), (370, .iaload, 1), (371, .invokevirtual 37, 3), (374, .aload_n 2, 1), (375, .aload_n 0, 1), (376, .iload_n 3, 1), (377, .iconst 1, 1), (378, .iadd, 1), (379, .iaload, 1), (380, .aload_n 0, 1), (381, .iload_n 3, 1), (382, .iconst 2, 1), (383, .iadd, 1), (384, .iaload, 1), (385, .aload_n 0, 1), (386, .iload_n 3, 1), (387, .iconst 3, 1), (388, .iadd, 1), (389, .iaload, 1), (390, .invokevirtual 40, 3), (393, .if_icmp .eq 183, 3), (396, .iconst 0, 1), (397, .ireturn, 1), (398, .aload_n 1, 1), (399, .aload_n 0, 1), (400, .iload_n 3, 1), (401, .iconst 1, 1), (402, .iadd, 1), (403, .iaload, 1), (404, .aload_n 0, 1), (405, .iload_n 3, 1), (406, .iconst 2, 1), (407, .iadd, 1), (408, .iaload, 1), (409, .invokevirtual 41, 3), (412, .aload_n 2, 1), (413, .aload_n 0, 1), (414, .iload_n 3, 1), (415, .iconst 1, 1), (416, .iadd, 1), (417, .iaload, 1), (418, .aload_n 0, 1), (419, .iload_n 3, 1), (420, .iconst 2, 1), (421, .iadd, 1), (422, .iaload, 1), (423, .invokevirtual 44, 3), (426, .if_icmp .eq 150, 3), (429, .iconst 0, 1), (430, .ireturn, 1), (431, .aload_n 1, 1), (432, .aload_n 0, 1), (433, .iload_n 3, 1), (434, .iconst 1, 1), (435, .iadd, 1), (436, .iaload, 1), (437, .aload_n 0, 1), (438, .iload_n 3, 1), (439, .iconst 2, 1), (440, .iadd, 1), (441, .iaload, 1), (442, .invokevirtual 45, 3), (445, .aload_n 2, 1), (446, .aload_n 0, 1), (447, .iload_n 3, 1), (448, .iconst 1, 1), (449, .iadd, 1), (450, .iaload, 1), (451, .aload_n 0, 1), (452, .iload_n 3, 1), (453, .iconst 2, 1), (454, .iadd, 1), (455, .iaload, 1), (456, .invokevirtual 48, 3), (459, .if_icmp .eq 117, 3), (462, .iconst 0, 1), (463, .ireturn, 1), (464, .aload_n 1, 1), (465, .aload_n 0, 1), (466, .iload_n 3, 1), (467, .iconst 1, 1), (468, .iadd, 1), (469, .iaload, 1), (470, .aload_n 0, 1), (471, .iload_n 3, 1), (472, .iconst 2, 1), (473, .iadd, 1), (474, .iaload, 1), (475, .invokevirtual 49, 3), (478, .aload_n 2, 1), (479, .aload_n 0, 1), (480, .iload_n 3, 1), (481, .iconst 1, 1), (482, .iadd, 1), (483, .iaload, 1), (484, .aload_n 0, 1), (485, .iload_n 3, 1), (486, .iconst 2, 1), (487, .iadd, 1), (488, .iaload, 1), (489, .invokevirtual 52, 3), (492, .if_icmp .eq 84, 3), (495, .iconst 0, 1), (496, .ireturn, 1), (497, .aload_n 1, 1), (498, .aload_n 0, 1), (499, .iload_n 3, 1), (500, .iconst 1, 1), (501, .iadd, 1), (502, .iaload, 1), (503, .aload_n 0, 1), (504, .iload_n 3, 1), (505, .iconst 2, 1), (506, .iadd, 1), (507, .iaload, 1), (508, .invokevirtual 53, 3), (511, .aload_n 2, 1), (512, .aload_n 0, 1), (513, .iload_n 3, 1), (514, .iconst 1, 1), (515, .iadd, 1), (516, .iaload, 1), (517, .aload_n 0, 1), (518, .iload_n 3, 1), (519, .iconst 2, 1), (520, .iadd, 1), (521, .iaload, 1), (522, .invokevirtual 56, 3), (525, .if_icmp .eq 51, 3), (528, .iconst 0, 1), (529, .ireturn, 1), (530, .aload_n 1, 1), (531, .aload_n 0, 1), (532, .iload_n 3, 1), (533, .iconst 1, 1), (534, .iadd, 1), (535, .iaload, 1), (536, .aload_n 0, 1), (537, .iload_n 3, 1), (538, .iconst 2, 1), (539, .iadd, 1), (540, .iaload, 1), (541, .invokevirtual 57, 3), (544, .aload_n 2, 1), (545, .aload_n 0, 1), (546, .iload_n 3, 1), (547, .iconst 1, 1), (548, .iadd, 1), (549, .iaload, 1), (550, .aload_n 0, 1), (551, .iload_n 3, 1), (552, .iconst 2, 1), (553, .iadd, 1), (554, .iaload, 1), (555, .invokevirtual 60, 3), (558, .if_icmp .eq 18, 3), (561, .iconst 0, 1), (562, .ireturn, 1), (563, .aload_n 1, 1), (564, .invokevirtual 61, 3), (567, .aload_n 2, 1), (568, .invokevirtual 65, 3), (571, .if_icmp .eq 5, 3), (574, .iconst 0, 1), (575, .ireturn, 1), (576, .iinc 3 8, 3), (579, .goto (-561), 3), (582, .iconst 1, 1), (583, .ireturn, 1)]
set_option maxRecDepth 20000 in
theorem dk_Lw_law : (dl_Lw_law.all fun q => decide (decode code q.1 = .ok (q.2.1, q.2.2))) = true := by decide +kernel
theorem k_Lw_law_0 : am_Snd gG mt yLw_law 0 (51, 0, 0, 0, 3, [(0, 2), (0, 2), (0, 2)]) := sd_new 0 0 0 [(0, 2), (0, 2), (0, 2)] cTy_0 (da dk_Lw_law (k := 0) rfl) rfl hin_0 cTyok_0 w_58 w_59 w_47 rfl cFs_0
theorem k_Lw_law_3 : am_Snd gG mt yLw_law 3 (13, 0, 0, 0, 4, []) := sd_dup 0 0 0 [] (da dk_Lw_law (k := 1) rfl)
theorem k_Lw_law_4 : am_Snd gG mt yLw_law 4 (61, 1, 0, 1, 7, [(0, 0)]) := sd_callI 1 0 1 0 mt_0 (da dk_Lw_law (k := 2) rfl) gG_ok w_62 rfl w_47 w_60 w_61 rfl hd_0 (by decide) rfl (Nat.le_of_ble_eq_true rfl) (Nat.le_of_ble_eq_true rfl)
theorem k_Lw_law_7 : am_Snd gG mt yLw_law 7 (4, 0, 1, 0, 8, []) := sd_astore_n 0 1 0 [] rfl (da dk_Lw_law (k := 3) rfl)
theorem k_Lw_law_8 : am_Snd gG mt yLw_law 8 (51, 0, 7, 0, 11, [(0, 2), (0, 2), (0, 2), (0, 2), (0, 2), (0, 2), (0, 2), (0, 2), (0, 2), (0, 2), (0, 2), (0, 2), (0, 2), (0, 2), (0, 0), (0, 2), (0, 2), (0, 2), (0, 2), (0, 2), (0, 0), (0, 2), (0, 2), (0, 2), (0, 2), (0, 2), (0, 2), (0, 2), (0, 0), (0, 2), (0, 2), (0, 2), (0, 0)]) := sd_new 0 7 0 [(0, 2), (0, 2), (0, 2), (0, 2), (0, 2), (0, 2), (0, 2), (0, 2), (0, 2), (0, 2), (0, 2), (0, 2), (0, 2), (0, 2), (0, 0), (0, 2), (0, 2), (0, 2), (0, 2), (0, 2), (0, 0), (0, 2), (0, 2), (0, 2), (0, 2), (0, 2), (0, 2), (0, 2), (0, 0), (0, 2), (0, 2), (0, 2), (0, 0)] cTy_7 (da dk_Lw_law (k := 4) rfl) rfl hin_7 cTyok_7 w_643 w_644 w_53 rfl cFs_7
theorem k_Lw_law_11 : am_Snd gG mt yLw_law 11 (13, 0, 0, 0, 12, []) := sd_dup 0 0 0 [] (da dk_Lw_law (k := 5) rfl)
theorem k_Lw_law_12 : am_Snd gG mt yLw_law 12 (61, 1, 93, 1, 15, [(0, 7)]) := sd_callI 1 93 1 7 mt_93 (da dk_Lw_law (k := 6) rfl) gG_ok w_647 rfl w_53 w_645 w_646 rfl hd_93 (by decide) rfl (Nat.le_of_ble_eq_true rfl) (Nat.le_of_ble_eq_true rfl)
theorem k_Lw_law_15 : am_Snd gG mt yLw_law 15 (4, 0, 2, 0, 16, []) := sd_astore_n 0 2 0 [] rfl (da dk_Lw_law (k := 7) rfl)
theorem k_Lw_law_16 : am_Snd gG mt yLw_law 16 (0, 0, 0, 0, 17, []) := sd_iconst 0 0 0 [] (da dk_Lw_law (k := 8) rfl)
theorem k_Lw_law_17 : am_Snd gG mt yLw_law 17 (3, 0, 3, 0, 18, []) := sd_istore_n 0 3 0 [] rfl (da dk_Lw_law (k := 9) rfl)
theorem k_Lw_law_18 : am_Snd gG mt yLw_law 18 (1, 0, 3, 0, 19, []) := sd_iload_n 0 3 0 [] rfl (da dk_Lw_law (k := 10) rfl)
theorem k_Lw_law_19 : am_Snd gG mt yLw_law 19 (2, 0, 0, 0, 20, []) := sd_aload_n 0 0 0 [] rfl (da dk_Lw_law (k := 11) rfl)
theorem k_Lw_law_20 : am_Snd gG mt yLw_law 20 (50, 0, 0, 0, 21, []) := sd_alen 0 0 0 [] (da dk_Lw_law (k := 12) rfl)
theorem k_Lw_law_21 : am_Snd gG mt yLw_law 21 (0, 8, 0, 0, 23, []) := sd_bipush 8 0 0 [] (da dk_Lw_law (k := 13) rfl) (by decide)
theorem k_Lw_law_23 : am_Snd gG mt yLw_law 23 (7, 0, 0, 0, 24, []) := sd_isub 0 0 0 [] (da dk_Lw_law (k := 14) rfl)
theorem k_Lw_law_24 : am_Snd gG mt yLw_law 24 (31, 0, 582, 4, 27, []) := sd_icmp_gt 0 582 [] (da dk_Lw_law (k := 15) rfl) (by decide)
theorem k_Lw_law_27 : am_Snd gG mt yLw_law 27 (2, 0, 0, 0, 28, []) := sd_aload_n 0 0 0 [] rfl (da dk_Lw_law (k := 16) rfl)
theorem k_Lw_law_28 : am_Snd gG mt yLw_law 28 (1, 0, 3, 0, 29, []) := sd_iload_n 0 3 0 [] rfl (da dk_Lw_law (k := 17) rfl)
theorem k_Lw_law_29 : am_Snd gG mt yLw_law 29 (42, 0, 99, 0, 30, []) := sd_sld 0 99 0 [] (da dk_Lw_law (k := 18) rfl) rfl
theorem k_Lw_law_30 : am_Snd gG mt yLw_law 30 (0, 15, 0, 0, 32, []) := sd_bipush 15 0 0 [] (da dk_Lw_law (k := 19) rfl) (by decide)
theorem k_Lw_law_32 : am_Snd gG mt yLw_law 32 (10, 0, 0, 0, 33, []) := sd_iand 0 0 0 [] (da dk_Lw_law (k := 20) rfl)
theorem k_Lw_law_33 : am_Snd gG mt yLw_law 33 (34, 0, 576, 0, 96, [(0, 96), (1, 159), (2, 246), (3, 279), (4, 312), (5, 355), (6, 398), (7, 431), (8, 464), (9, 497), (10, 530), (11, 563)]) := sd_table 0 576 0 96 [(0, 96), (1, 159), (2, 246), (3, 279), (4, 312), (5, 355), (6, 398), (7, 431), (8, 464), (9, 497), (10, 530), (11, 563)] (da dk_Lw_law (k := 21) rfl) (by decide) (by decide) (by decide)
theorem k_Lw_law_96 : am_Snd gG mt yLw_law 96 (2, 0, 1, 0, 97, []) := sd_aload_n 0 1 0 [] rfl (da dk_Lw_law (k := 22) rfl)
theorem k_Lw_law_97 : am_Snd gG mt yLw_law 97 (2, 0, 0, 0, 98, []) := sd_aload_n 0 0 0 [] rfl (da dk_Lw_law (k := 23) rfl)
theorem k_Lw_law_98 : am_Snd gG mt yLw_law 98 (1, 0, 3, 0, 99, []) := sd_iload_n 0 3 0 [] rfl (da dk_Lw_law (k := 24) rfl)
theorem k_Lw_law_99 : am_Snd gG mt yLw_law 99 (0, 1, 0, 0, 100, []) := sd_iconst 1 0 0 [] (da dk_Lw_law (k := 25) rfl)
theorem k_Lw_law_100 : am_Snd gG mt yLw_law 100 (6, 0, 0, 0, 101, []) := sd_iadd 0 0 0 [] (da dk_Lw_law (k := 26) rfl)
theorem k_Lw_law_101 : am_Snd gG mt yLw_law 101 (42, 0, 99, 0, 102, []) := sd_sld 0 99 0 [] (da dk_Lw_law (k := 27) rfl) rfl
theorem k_Lw_law_102 : am_Snd gG mt yLw_law 102 (2, 0, 0, 0, 103, []) := sd_aload_n 0 0 0 [] rfl (da dk_Lw_law (k := 28) rfl)
theorem k_Lw_law_103 : am_Snd gG mt yLw_law 103 (1, 0, 3, 0, 104, []) := sd_iload_n 0 3 0 [] rfl (da dk_Lw_law (k := 29) rfl)
theorem k_Lw_law_104 : am_Snd gG mt yLw_law 104 (0, 2, 0, 0, 105, []) := sd_iconst 2 0 0 [] (da dk_Lw_law (k := 30) rfl)
theorem k_Lw_law_105 : am_Snd gG mt yLw_law 105 (6, 0, 0, 0, 106, []) := sd_iadd 0 0 0 [] (da dk_Lw_law (k := 31) rfl)
theorem k_Lw_law_106 : am_Snd gG mt yLw_law 106 (42, 0, 99, 0, 107, []) := sd_sld 0 99 0 [] (da dk_Lw_law (k := 32) rfl) rfl
theorem k_Lw_law_107 : am_Snd gG mt yLw_law 107 (2, 0, 0, 0, 108, []) := sd_aload_n 0 0 0 [] rfl (da dk_Lw_law (k := 33) rfl)
theorem k_Lw_law_108 : am_Snd gG mt yLw_law 108 (1, 0, 3, 0, 109, []) := sd_iload_n 0 3 0 [] rfl (da dk_Lw_law (k := 34) rfl)
theorem k_Lw_law_109 : am_Snd gG mt yLw_law 109 (0, 3, 0, 0, 110, []) := sd_iconst 3 0 0 [] (da dk_Lw_law (k := 35) rfl)
theorem k_Lw_law_110 : am_Snd gG mt yLw_law 110 (6, 0, 0, 0, 111, []) := sd_iadd 0 0 0 [] (da dk_Lw_law (k := 36) rfl)
theorem k_Lw_law_111 : am_Snd gG mt yLw_law 111 (42, 0, 99, 0, 112, []) := sd_sld 0 99 0 [] (da dk_Lw_law (k := 37) rfl) rfl
theorem k_Lw_law_112 : am_Snd gG mt yLw_law 112 (2, 0, 0, 0, 113, []) := sd_aload_n 0 0 0 [] rfl (da dk_Lw_law (k := 38) rfl)
theorem k_Lw_law_113 : am_Snd gG mt yLw_law 113 (1, 0, 3, 0, 114, []) := sd_iload_n 0 3 0 [] rfl (da dk_Lw_law (k := 39) rfl)
theorem k_Lw_law_114 : am_Snd gG mt yLw_law 114 (0, 4, 0, 0, 115, []) := sd_iconst 4 0 0 [] (da dk_Lw_law (k := 40) rfl)
theorem k_Lw_law_115 : am_Snd gG mt yLw_law 115 (6, 0, 0, 0, 116, []) := sd_iadd 0 0 0 [] (da dk_Lw_law (k := 41) rfl)
theorem k_Lw_law_116 : am_Snd gG mt yLw_law 116 (42, 0, 99, 0, 117, []) := sd_sld 0 99 0 [] (da dk_Lw_law (k := 42) rfl) rfl
theorem k_Lw_law_117 : am_Snd gG mt yLw_law 117 (2, 0, 0, 0, 118, []) := sd_aload_n 0 0 0 [] rfl (da dk_Lw_law (k := 43) rfl)
theorem k_Lw_law_118 : am_Snd gG mt yLw_law 118 (1, 0, 3, 0, 119, []) := sd_iload_n 0 3 0 [] rfl (da dk_Lw_law (k := 44) rfl)
theorem k_Lw_law_119 : am_Snd gG mt yLw_law 119 (0, 5, 0, 0, 120, []) := sd_iconst 5 0 0 [] (da dk_Lw_law (k := 45) rfl)
theorem k_Lw_law_120 : am_Snd gG mt yLw_law 120 (6, 0, 0, 0, 121, []) := sd_iadd 0 0 0 [] (da dk_Lw_law (k := 46) rfl)
theorem k_Lw_law_121 : am_Snd gG mt yLw_law 121 (42, 0, 99, 0, 122, []) := sd_sld 0 99 0 [] (da dk_Lw_law (k := 47) rfl) rfl
theorem k_Lw_law_122 : am_Snd gG mt yLw_law 122 (61, 4, 6, 6, 125, [(0, 0)]) := sd_callV 4 6 6 0 mt_6 (da dk_Lw_law (k := 48) rfl) gG_ok rfl w_181 (List.forall_mem_cons.2 ⟨w_178, List.forall_mem_cons.2 ⟨w_179, List.forall_mem_cons.2 ⟨w_180, List.forall_mem_cons.2 ⟨w_47, fun _ h => absurd h List.not_mem_nil⟩⟩⟩⟩) hd_6 (by decide) rfl (Nat.le_of_ble_eq_true rfl) (Nat.le_of_ble_eq_true rfl)
theorem k_Lw_law_125 : am_Snd gG mt yLw_law 125 (2, 0, 2, 0, 126, []) := sd_aload_n 0 2 0 [] rfl (da dk_Lw_law (k := 49) rfl)
theorem k_Lw_law_126 : am_Snd gG mt yLw_law 126 (2, 0, 0, 0, 127, []) := sd_aload_n 0 0 0 [] rfl (da dk_Lw_law (k := 50) rfl)
theorem k_Lw_law_127 : am_Snd gG mt yLw_law 127 (1, 0, 3, 0, 128, []) := sd_iload_n 0 3 0 [] rfl (da dk_Lw_law (k := 51) rfl)
theorem k_Lw_law_128 : am_Snd gG mt yLw_law 128 (0, 1, 0, 0, 129, []) := sd_iconst 1 0 0 [] (da dk_Lw_law (k := 52) rfl)
theorem k_Lw_law_129 : am_Snd gG mt yLw_law 129 (6, 0, 0, 0, 130, []) := sd_iadd 0 0 0 [] (da dk_Lw_law (k := 53) rfl)
theorem k_Lw_law_130 : am_Snd gG mt yLw_law 130 (42, 0, 99, 0, 131, []) := sd_sld 0 99 0 [] (da dk_Lw_law (k := 54) rfl) rfl
theorem k_Lw_law_131 : am_Snd gG mt yLw_law 131 (2, 0, 0, 0, 132, []) := sd_aload_n 0 0 0 [] rfl (da dk_Lw_law (k := 55) rfl)
theorem k_Lw_law_132 : am_Snd gG mt yLw_law 132 (1, 0, 3, 0, 133, []) := sd_iload_n 0 3 0 [] rfl (da dk_Lw_law (k := 56) rfl)
theorem k_Lw_law_133 : am_Snd gG mt yLw_law 133 (0, 2, 0, 0, 134, []) := sd_iconst 2 0 0 [] (da dk_Lw_law (k := 57) rfl)
theorem k_Lw_law_134 : am_Snd gG mt yLw_law 134 (6, 0, 0, 0, 135, []) := sd_iadd 0 0 0 [] (da dk_Lw_law (k := 58) rfl)
theorem k_Lw_law_135 : am_Snd gG mt yLw_law 135 (42, 0, 99, 0, 136, []) := sd_sld 0 99 0 [] (da dk_Lw_law (k := 59) rfl) rfl
theorem k_Lw_law_136 : am_Snd gG mt yLw_law 136 (2, 0, 0, 0, 137, []) := sd_aload_n 0 0 0 [] rfl (da dk_Lw_law (k := 60) rfl)
theorem k_Lw_law_137 : am_Snd gG mt yLw_law 137 (1, 0, 3, 0, 138, []) := sd_iload_n 0 3 0 [] rfl (da dk_Lw_law (k := 61) rfl)
theorem k_Lw_law_138 : am_Snd gG mt yLw_law 138 (0, 3, 0, 0, 139, []) := sd_iconst 3 0 0 [] (da dk_Lw_law (k := 62) rfl)
theorem k_Lw_law_139 : am_Snd gG mt yLw_law 139 (6, 0, 0, 0, 140, []) := sd_iadd 0 0 0 [] (da dk_Lw_law (k := 63) rfl)
theorem k_Lw_law_140 : am_Snd gG mt yLw_law 140 (42, 0, 99, 0, 141, []) := sd_sld 0 99 0 [] (da dk_Lw_law (k := 64) rfl) rfl
theorem k_Lw_law_141 : am_Snd gG mt yLw_law 141 (2, 0, 0, 0, 142, []) := sd_aload_n 0 0 0 [] rfl (da dk_Lw_law (k := 65) rfl)
theorem k_Lw_law_142 : am_Snd gG mt yLw_law 142 (1, 0, 3, 0, 143, []) := sd_iload_n 0 3 0 [] rfl (da dk_Lw_law (k := 66) rfl)
theorem k_Lw_law_143 : am_Snd gG mt yLw_law 143 (0, 4, 0, 0, 144, []) := sd_iconst 4 0 0 [] (da dk_Lw_law (k := 67) rfl)
theorem k_Lw_law_144 : am_Snd gG mt yLw_law 144 (6, 0, 0, 0, 145, []) := sd_iadd 0 0 0 [] (da dk_Lw_law (k := 68) rfl)
theorem k_Lw_law_145 : am_Snd gG mt yLw_law 145 (42, 0, 99, 0, 146, []) := sd_sld 0 99 0 [] (da dk_Lw_law (k := 69) rfl) rfl
theorem k_Lw_law_146 : am_Snd gG mt yLw_law 146 (2, 0, 0, 0, 147, []) := sd_aload_n 0 0 0 [] rfl (da dk_Lw_law (k := 70) rfl)
theorem k_Lw_law_147 : am_Snd gG mt yLw_law 147 (1, 0, 3, 0, 148, []) := sd_iload_n 0 3 0 [] rfl (da dk_Lw_law (k := 71) rfl)
theorem k_Lw_law_148 : am_Snd gG mt yLw_law 148 (0, 5, 0, 0, 149, []) := sd_iconst 5 0 0 [] (da dk_Lw_law (k := 72) rfl)
theorem k_Lw_law_149 : am_Snd gG mt yLw_law 149 (6, 0, 0, 0, 150, []) := sd_iadd 0 0 0 [] (da dk_Lw_law (k := 73) rfl)
theorem k_Lw_law_150 : am_Snd gG mt yLw_law 150 (42, 0, 99, 0, 151, []) := sd_sld 0 99 0 [] (da dk_Lw_law (k := 74) rfl) rfl
theorem k_Lw_law_151 : am_Snd gG mt yLw_law 151 (61, 3, 94, 6, 154, [(0, 7)]) := sd_callV 3 94 6 7 mt_94 (da dk_Lw_law (k := 75) rfl) gG_ok rfl w_754 (List.forall_mem_cons.2 ⟨w_751, List.forall_mem_cons.2 ⟨w_752, List.forall_mem_cons.2 ⟨w_753, List.forall_mem_cons.2 ⟨w_53, fun _ h => absurd h List.not_mem_nil⟩⟩⟩⟩) hd_94 (by decide) rfl (Nat.le_of_ble_eq_true rfl) (Nat.le_of_ble_eq_true rfl)
theorem k_Lw_law_154 : am_Snd gG mt yLw_law 154 (31, 0, 576, 0, 157, []) := sd_icmp_eq 0 576 [] (da dk_Lw_law (k := 76) rfl) (by decide)
theorem k_Lw_law_157 : am_Snd gG mt yLw_law 157 (0, 0, 0, 0, 158, []) := sd_iconst 0 0 0 [] (da dk_Lw_law (k := 77) rfl)
theorem k_Lw_law_158 : am_Snd gG mt yLw_law 158 (72, 0, 0, 0, 159, []) := sd_zret 0 0 0 159 [] (da dk_Lw_law (k := 78) rfl) rfl
theorem k_Lw_law_159 : am_Snd gG mt yLw_law 159 (2, 0, 1, 0, 160, []) := sd_aload_n 0 1 0 [] rfl (da dk_Lw_law (k := 79) rfl)
theorem k_Lw_law_160 : am_Snd gG mt yLw_law 160 (2, 0, 0, 0, 161, []) := sd_aload_n 0 0 0 [] rfl (da dk_Lw_law (k := 80) rfl)
theorem k_Lw_law_161 : am_Snd gG mt yLw_law 161 (1, 0, 3, 0, 162, []) := sd_iload_n 0 3 0 [] rfl (da dk_Lw_law (k := 81) rfl)
theorem k_Lw_law_162 : am_Snd gG mt yLw_law 162 (0, 1, 0, 0, 163, []) := sd_iconst 1 0 0 [] (da dk_Lw_law (k := 82) rfl)
theorem k_Lw_law_163 : am_Snd gG mt yLw_law 163 (6, 0, 0, 0, 164, []) := sd_iadd 0 0 0 [] (da dk_Lw_law (k := 83) rfl)
theorem k_Lw_law_164 : am_Snd gG mt yLw_law 164 (42, 0, 99, 0, 165, []) := sd_sld 0 99 0 [] (da dk_Lw_law (k := 84) rfl) rfl
theorem k_Lw_law_165 : am_Snd gG mt yLw_law 165 (2, 0, 0, 0, 166, []) := sd_aload_n 0 0 0 [] rfl (da dk_Lw_law (k := 85) rfl)
theorem k_Lw_law_166 : am_Snd gG mt yLw_law 166 (1, 0, 3, 0, 167, []) := sd_iload_n 0 3 0 [] rfl (da dk_Lw_law (k := 86) rfl)
theorem k_Lw_law_167 : am_Snd gG mt yLw_law 167 (0, 2, 0, 0, 168, []) := sd_iconst 2 0 0 [] (da dk_Lw_law (k := 87) rfl)
theorem k_Lw_law_168 : am_Snd gG mt yLw_law 168 (6, 0, 0, 0, 169, []) := sd_iadd 0 0 0 [] (da dk_Lw_law (k := 88) rfl)
theorem k_Lw_law_169 : am_Snd gG mt yLw_law 169 (42, 0, 99, 0, 170, []) := sd_sld 0 99 0 [] (da dk_Lw_law (k := 89) rfl) rfl
theorem k_Lw_law_170 : am_Snd gG mt yLw_law 170 (2, 0, 0, 0, 171, []) := sd_aload_n 0 0 0 [] rfl (da dk_Lw_law (k := 90) rfl)
theorem k_Lw_law_171 : am_Snd gG mt yLw_law 171 (1, 0, 3, 0, 172, []) := sd_iload_n 0 3 0 [] rfl (da dk_Lw_law (k := 91) rfl)
theorem k_Lw_law_172 : am_Snd gG mt yLw_law 172 (0, 3, 0, 0, 173, []) := sd_iconst 3 0 0 [] (da dk_Lw_law (k := 92) rfl)
theorem k_Lw_law_173 : am_Snd gG mt yLw_law 173 (6, 0, 0, 0, 174, []) := sd_iadd 0 0 0 [] (da dk_Lw_law (k := 93) rfl)
theorem k_Lw_law_174 : am_Snd gG mt yLw_law 174 (42, 0, 99, 0, 175, []) := sd_sld 0 99 0 [] (da dk_Lw_law (k := 94) rfl) rfl
theorem k_Lw_law_175 : am_Snd gG mt yLw_law 175 (2, 0, 0, 0, 176, []) := sd_aload_n 0 0 0 [] rfl (da dk_Lw_law (k := 95) rfl)
theorem k_Lw_law_176 : am_Snd gG mt yLw_law 176 (1, 0, 3, 0, 177, []) := sd_iload_n 0 3 0 [] rfl (da dk_Lw_law (k := 96) rfl)
theorem k_Lw_law_177 : am_Snd gG mt yLw_law 177 (0, 4, 0, 0, 178, []) := sd_iconst 4 0 0 [] (da dk_Lw_law (k := 97) rfl)
theorem k_Lw_law_178 : am_Snd gG mt yLw_law 178 (6, 0, 0, 0, 179, []) := sd_iadd 0 0 0 [] (da dk_Lw_law (k := 98) rfl)
theorem k_Lw_law_179 : am_Snd gG mt yLw_law 179 (42, 0, 99, 0, 180, []) := sd_sld 0 99 0 [] (da dk_Lw_law (k := 99) rfl) rfl
theorem k_Lw_law_180 : am_Snd gG mt yLw_law 180 (2, 0, 0, 0, 181, []) := sd_aload_n 0 0 0 [] rfl (da dk_Lw_law (k := 100) rfl)
theorem k_Lw_law_181 : am_Snd gG mt yLw_law 181 (1, 0, 3, 0, 182, []) := sd_iload_n 0 3 0 [] rfl (da dk_Lw_law (k := 101) rfl)
theorem k_Lw_law_182 : am_Snd gG mt yLw_law 182 (0, 5, 0, 0, 183, []) := sd_iconst 5 0 0 [] (da dk_Lw_law (k := 102) rfl)
theorem k_Lw_law_183 : am_Snd gG mt yLw_law 183 (6, 0, 0, 0, 184, []) := sd_iadd 0 0 0 [] (da dk_Lw_law (k := 103) rfl)
theorem k_Lw_law_184 : am_Snd gG mt yLw_law 184 (42, 0, 99, 0, 185, []) := sd_sld 0 99 0 [] (da dk_Lw_law (k := 104) rfl) rfl
theorem k_Lw_law_185 : am_Snd gG mt yLw_law 185 (2, 0, 0, 0, 186, []) := sd_aload_n 0 0 0 [] rfl (da dk_Lw_law (k := 105) rfl)
theorem k_Lw_law_186 : am_Snd gG mt yLw_law 186 (1, 0, 3, 0, 187, []) := sd_iload_n 0 3 0 [] rfl (da dk_Lw_law (k := 106) rfl)
theorem k_Lw_law_187 : am_Snd gG mt yLw_law 187 (0, 6, 0, 0, 189, []) := sd_bipush 6 0 0 [] (da dk_Lw_law (k := 107) rfl) (by decide)
theorem k_Lw_law_189 : am_Snd gG mt yLw_law 189 (6, 0, 0, 0, 190, []) := sd_iadd 0 0 0 [] (da dk_Lw_law (k := 108) rfl)
theorem k_Lw_law_190 : am_Snd gG mt yLw_law 190 (42, 0, 99, 0, 191, []) := sd_sld 0 99 0 [] (da dk_Lw_law (k := 109) rfl) rfl
theorem k_Lw_law_191 : am_Snd gG mt yLw_law 191 (2, 0, 0, 0, 192, []) := sd_aload_n 0 0 0 [] rfl (da dk_Lw_law (k := 110) rfl)
theorem k_Lw_law_192 : am_Snd gG mt yLw_law 192 (1, 0, 3, 0, 193, []) := sd_iload_n 0 3 0 [] rfl (da dk_Lw_law (k := 111) rfl)
theorem k_Lw_law_193 : am_Snd gG mt yLw_law 193 (0, 7, 0, 0, 195, []) := sd_bipush 7 0 0 [] (da dk_Lw_law (k := 112) rfl) (by decide)
theorem k_Lw_law_195 : am_Snd gG mt yLw_law 195 (6, 0, 0, 0, 196, []) := sd_iadd 0 0 0 [] (da dk_Lw_law (k := 113) rfl)
theorem k_Lw_law_196 : am_Snd gG mt yLw_law 196 (42, 0, 99, 0, 197, []) := sd_sld 0 99 0 [] (da dk_Lw_law (k := 114) rfl) rfl
theorem k_Lw_law_197 : am_Snd gG mt yLw_law 197 (61, 3, 71, 8, 200, [(0, 0)]) := sd_callV 3 71 8 0 mt_71 (da dk_Lw_law (k := 115) rfl) gG_ok rfl w_554 (List.forall_mem_cons.2 ⟨w_551, List.forall_mem_cons.2 ⟨w_552, List.forall_mem_cons.2 ⟨w_553, List.forall_mem_cons.2 ⟨w_47, fun _ h => absurd h List.not_mem_nil⟩⟩⟩⟩) hd_71 (by decide) rfl (Nat.le_of_ble_eq_true rfl) (Nat.le_of_ble_eq_true rfl)
theorem k_Lw_law_200 : am_Snd gG mt yLw_law 200 (2, 0, 2, 0, 201, []) := sd_aload_n 0 2 0 [] rfl (da dk_Lw_law (k := 116) rfl)
theorem k_Lw_law_201 : am_Snd gG mt yLw_law 201 (2, 0, 0, 0, 202, []) := sd_aload_n 0 0 0 [] rfl (da dk_Lw_law (k := 117) rfl)
theorem k_Lw_law_202 : am_Snd gG mt yLw_law 202 (1, 0, 3, 0, 203, []) := sd_iload_n 0 3 0 [] rfl (da dk_Lw_law (k := 118) rfl)
theorem k_Lw_law_203 : am_Snd gG mt yLw_law 203 (0, 1, 0, 0, 204, []) := sd_iconst 1 0 0 [] (da dk_Lw_law (k := 119) rfl)
theorem k_Lw_law_204 : am_Snd gG mt yLw_law 204 (6, 0, 0, 0, 205, []) := sd_iadd 0 0 0 [] (da dk_Lw_law (k := 120) rfl)
theorem k_Lw_law_205 : am_Snd gG mt yLw_law 205 (42, 0, 99, 0, 206, []) := sd_sld 0 99 0 [] (da dk_Lw_law (k := 121) rfl) rfl
theorem k_Lw_law_206 : am_Snd gG mt yLw_law 206 (2, 0, 0, 0, 207, []) := sd_aload_n 0 0 0 [] rfl (da dk_Lw_law (k := 122) rfl)
theorem k_Lw_law_207 : am_Snd gG mt yLw_law 207 (1, 0, 3, 0, 208, []) := sd_iload_n 0 3 0 [] rfl (da dk_Lw_law (k := 123) rfl)
theorem k_Lw_law_208 : am_Snd gG mt yLw_law 208 (0, 2, 0, 0, 209, []) := sd_iconst 2 0 0 [] (da dk_Lw_law (k := 124) rfl)
theorem k_Lw_law_209 : am_Snd gG mt yLw_law 209 (6, 0, 0, 0, 210, []) := sd_iadd 0 0 0 [] (da dk_Lw_law (k := 125) rfl)
theorem k_Lw_law_210 : am_Snd gG mt yLw_law 210 (42, 0, 99, 0, 211, []) := sd_sld 0 99 0 [] (da dk_Lw_law (k := 126) rfl) rfl
theorem k_Lw_law_211 : am_Snd gG mt yLw_law 211 (2, 0, 0, 0, 212, []) := sd_aload_n 0 0 0 [] rfl (da dk_Lw_law (k := 127) rfl)
theorem k_Lw_law_212 : am_Snd gG mt yLw_law 212 (1, 0, 3, 0, 213, []) := sd_iload_n 0 3 0 [] rfl (da dk_Lw_law (k := 128) rfl)
theorem k_Lw_law_213 : am_Snd gG mt yLw_law 213 (0, 3, 0, 0, 214, []) := sd_iconst 3 0 0 [] (da dk_Lw_law (k := 129) rfl)
theorem k_Lw_law_214 : am_Snd gG mt yLw_law 214 (6, 0, 0, 0, 215, []) := sd_iadd 0 0 0 [] (da dk_Lw_law (k := 130) rfl)
theorem k_Lw_law_215 : am_Snd gG mt yLw_law 215 (42, 0, 99, 0, 216, []) := sd_sld 0 99 0 [] (da dk_Lw_law (k := 131) rfl) rfl
theorem k_Lw_law_216 : am_Snd gG mt yLw_law 216 (2, 0, 0, 0, 217, []) := sd_aload_n 0 0 0 [] rfl (da dk_Lw_law (k := 132) rfl)
theorem k_Lw_law_217 : am_Snd gG mt yLw_law 217 (1, 0, 3, 0, 218, []) := sd_iload_n 0 3 0 [] rfl (da dk_Lw_law (k := 133) rfl)
theorem k_Lw_law_218 : am_Snd gG mt yLw_law 218 (0, 4, 0, 0, 219, []) := sd_iconst 4 0 0 [] (da dk_Lw_law (k := 134) rfl)
theorem k_Lw_law_219 : am_Snd gG mt yLw_law 219 (6, 0, 0, 0, 220, []) := sd_iadd 0 0 0 [] (da dk_Lw_law (k := 135) rfl)
theorem k_Lw_law_220 : am_Snd gG mt yLw_law 220 (42, 0, 99, 0, 221, []) := sd_sld 0 99 0 [] (da dk_Lw_law (k := 136) rfl) rfl
theorem k_Lw_law_221 : am_Snd gG mt yLw_law 221 (2, 0, 0, 0, 222, []) := sd_aload_n 0 0 0 [] rfl (da dk_Lw_law (k := 137) rfl)
theorem k_Lw_law_222 : am_Snd gG mt yLw_law 222 (1, 0, 3, 0, 223, []) := sd_iload_n 0 3 0 [] rfl (da dk_Lw_law (k := 138) rfl)
theorem k_Lw_law_223 : am_Snd gG mt yLw_law 223 (0, 5, 0, 0, 224, []) := sd_iconst 5 0 0 [] (da dk_Lw_law (k := 139) rfl)
theorem k_Lw_law_224 : am_Snd gG mt yLw_law 224 (6, 0, 0, 0, 225, []) := sd_iadd 0 0 0 [] (da dk_Lw_law (k := 140) rfl)
theorem k_Lw_law_225 : am_Snd gG mt yLw_law 225 (42, 0, 99, 0, 226, []) := sd_sld 0 99 0 [] (da dk_Lw_law (k := 141) rfl) rfl
theorem k_Lw_law_226 : am_Snd gG mt yLw_law 226 (2, 0, 0, 0, 227, []) := sd_aload_n 0 0 0 [] rfl (da dk_Lw_law (k := 142) rfl)
theorem k_Lw_law_227 : am_Snd gG mt yLw_law 227 (1, 0, 3, 0, 228, []) := sd_iload_n 0 3 0 [] rfl (da dk_Lw_law (k := 143) rfl)
theorem k_Lw_law_228 : am_Snd gG mt yLw_law 228 (0, 6, 0, 0, 230, []) := sd_bipush 6 0 0 [] (da dk_Lw_law (k := 144) rfl) (by decide)
theorem k_Lw_law_230 : am_Snd gG mt yLw_law 230 (6, 0, 0, 0, 231, []) := sd_iadd 0 0 0 [] (da dk_Lw_law (k := 145) rfl)
theorem k_Lw_law_231 : am_Snd gG mt yLw_law 231 (42, 0, 99, 0, 232, []) := sd_sld 0 99 0 [] (da dk_Lw_law (k := 146) rfl) rfl
theorem k_Lw_law_232 : am_Snd gG mt yLw_law 232 (2, 0, 0, 0, 233, []) := sd_aload_n 0 0 0 [] rfl (da dk_Lw_law (k := 147) rfl)
theorem k_Lw_law_233 : am_Snd gG mt yLw_law 233 (1, 0, 3, 0, 234, []) := sd_iload_n 0 3 0 [] rfl (da dk_Lw_law (k := 148) rfl)
theorem k_Lw_law_234 : am_Snd gG mt yLw_law 234 (0, 7, 0, 0, 236, []) := sd_bipush 7 0 0 [] (da dk_Lw_law (k := 149) rfl) (by decide)
theorem k_Lw_law_236 : am_Snd gG mt yLw_law 236 (6, 0, 0, 0, 237, []) := sd_iadd 0 0 0 [] (da dk_Lw_law (k := 150) rfl)
theorem k_Lw_law_237 : am_Snd gG mt yLw_law 237 (42, 0, 99, 0, 238, []) := sd_sld 0 99 0 [] (da dk_Lw_law (k := 151) rfl) rfl
theorem k_Lw_law_238 : am_Snd gG mt yLw_law 238 (61, 3, 125, 8, 241, [(0, 7)]) := sd_callV 3 125 8 7 mt_125 (da dk_Lw_law (k := 152) rfl) gG_ok rfl w_877 (List.forall_mem_cons.2 ⟨w_874, List.forall_mem_cons.2 ⟨w_875, List.forall_mem_cons.2 ⟨w_876, List.forall_mem_cons.2 ⟨w_53, fun _ h => absurd h List.not_mem_nil⟩⟩⟩⟩) hd_125 (by decide) rfl (Nat.le_of_ble_eq_true rfl) (Nat.le_of_ble_eq_true rfl)
theorem k_Lw_law_241 : am_Snd gG mt yLw_law 241 (31, 0, 576, 0, 244, []) := sd_icmp_eq 0 576 [] (da dk_Lw_law (k := 153) rfl) (by decide)
theorem k_Lw_law_244 : am_Snd gG mt yLw_law 244 (0, 0, 0, 0, 245, []) := sd_iconst 0 0 0 [] (da dk_Lw_law (k := 154) rfl)
theorem k_Lw_law_245 : am_Snd gG mt yLw_law 245 (72, 0, 0, 0, 246, []) := sd_zret 0 0 0 246 [] (da dk_Lw_law (k := 155) rfl) rfl
theorem k_Lw_law_246 : am_Snd gG mt yLw_law 246 (2, 0, 1, 0, 247, []) := sd_aload_n 0 1 0 [] rfl (da dk_Lw_law (k := 156) rfl)
theorem k_Lw_law_247 : am_Snd gG mt yLw_law 247 (2, 0, 0, 0, 248, []) := sd_aload_n 0 0 0 [] rfl (da dk_Lw_law (k := 157) rfl)
theorem k_Lw_law_248 : am_Snd gG mt yLw_law 248 (1, 0, 3, 0, 249, []) := sd_iload_n 0 3 0 [] rfl (da dk_Lw_law (k := 158) rfl)
theorem k_Lw_law_249 : am_Snd gG mt yLw_law 249 (0, 1, 0, 0, 250, []) := sd_iconst 1 0 0 [] (da dk_Lw_law (k := 159) rfl)
theorem k_Lw_law_250 : am_Snd gG mt yLw_law 250 (6, 0, 0, 0, 251, []) := sd_iadd 0 0 0 [] (da dk_Lw_law (k := 160) rfl)
theorem k_Lw_law_251 : am_Snd gG mt yLw_law 251 (42, 0, 99, 0, 252, []) := sd_sld 0 99 0 [] (da dk_Lw_law (k := 161) rfl) rfl
theorem k_Lw_law_252 : am_Snd gG mt yLw_law 252 (2, 0, 0, 0, 253, []) := sd_aload_n 0 0 0 [] rfl (da dk_Lw_law (k := 162) rfl)
theorem k_Lw_law_253 : am_Snd gG mt yLw_law 253 (1, 0, 3, 0, 254, []) := sd_iload_n 0 3 0 [] rfl (da dk_Lw_law (k := 163) rfl)
theorem k_Lw_law_254 : am_Snd gG mt yLw_law 254 (0, 2, 0, 0, 255, []) := sd_iconst 2 0 0 [] (da dk_Lw_law (k := 164) rfl)
theorem k_Lw_law_255 : am_Snd gG mt yLw_law 255 (6, 0, 0, 0, 256, []) := sd_iadd 0 0 0 [] (da dk_Lw_law (k := 165) rfl)
theorem k_Lw_law_256 : am_Snd gG mt yLw_law 256 (42, 0, 99, 0, 257, []) := sd_sld 0 99 0 [] (da dk_Lw_law (k := 166) rfl) rfl
theorem k_Lw_law_257 : am_Snd gG mt yLw_law 257 (61, 2, 74, 3, 260, [(0, 0)]) := sd_callV 2 74 3 0 mt_74 (da dk_Lw_law (k := 167) rfl) gG_ok rfl w_567 (List.forall_mem_cons.2 ⟨w_564, List.forall_mem_cons.2 ⟨w_565, List.forall_mem_cons.2 ⟨w_566, List.forall_mem_cons.2 ⟨w_47, fun _ h => absurd h List.not_mem_nil⟩⟩⟩⟩) hd_74 (by decide) rfl (Nat.le_of_ble_eq_true rfl) (Nat.le_of_ble_eq_true rfl)
theorem k_Lw_law_260 : am_Snd gG mt yLw_law 260 (2, 0, 2, 0, 261, []) := sd_aload_n 0 2 0 [] rfl (da dk_Lw_law (k := 168) rfl)
theorem k_Lw_law_261 : am_Snd gG mt yLw_law 261 (2, 0, 0, 0, 262, []) := sd_aload_n 0 0 0 [] rfl (da dk_Lw_law (k := 169) rfl)
theorem k_Lw_law_262 : am_Snd gG mt yLw_law 262 (1, 0, 3, 0, 263, []) := sd_iload_n 0 3 0 [] rfl (da dk_Lw_law (k := 170) rfl)
theorem k_Lw_law_263 : am_Snd gG mt yLw_law 263 (0, 1, 0, 0, 264, []) := sd_iconst 1 0 0 [] (da dk_Lw_law (k := 171) rfl)
theorem k_Lw_law_264 : am_Snd gG mt yLw_law 264 (6, 0, 0, 0, 265, []) := sd_iadd 0 0 0 [] (da dk_Lw_law (k := 172) rfl)
theorem k_Lw_law_265 : am_Snd gG mt yLw_law 265 (42, 0, 99, 0, 266, []) := sd_sld 0 99 0 [] (da dk_Lw_law (k := 173) rfl) rfl
theorem k_Lw_law_266 : am_Snd gG mt yLw_law 266 (2, 0, 0, 0, 267, []) := sd_aload_n 0 0 0 [] rfl (da dk_Lw_law (k := 174) rfl)
theorem k_Lw_law_267 : am_Snd gG mt yLw_law 267 (1, 0, 3, 0, 268, []) := sd_iload_n 0 3 0 [] rfl (da dk_Lw_law (k := 175) rfl)
theorem k_Lw_law_268 : am_Snd gG mt yLw_law 268 (0, 2, 0, 0, 269, []) := sd_iconst 2 0 0 [] (da dk_Lw_law (k := 176) rfl)
theorem k_Lw_law_269 : am_Snd gG mt yLw_law 269 (6, 0, 0, 0, 270, []) := sd_iadd 0 0 0 [] (da dk_Lw_law (k := 177) rfl)
theorem k_Lw_law_270 : am_Snd gG mt yLw_law 270 (42, 0, 99, 0, 271, []) := sd_sld 0 99 0 [] (da dk_Lw_law (k := 178) rfl) rfl
theorem k_Lw_law_271 : am_Snd gG mt yLw_law 271 (61, 2, 126, 3, 274, [(0, 7)]) := sd_callV 2 126 3 7 mt_126 (da dk_Lw_law (k := 179) rfl) gG_ok rfl w_881 (List.forall_mem_cons.2 ⟨w_878, List.forall_mem_cons.2 ⟨w_879, List.forall_mem_cons.2 ⟨w_880, List.forall_mem_cons.2 ⟨w_53, fun _ h => absurd h List.not_mem_nil⟩⟩⟩⟩) hd_126 (by decide) rfl (Nat.le_of_ble_eq_true rfl) (Nat.le_of_ble_eq_true rfl)
theorem k_Lw_law_274 : am_Snd gG mt yLw_law 274 (31, 0, 576, 0, 277, []) := sd_icmp_eq 0 576 [] (da dk_Lw_law (k := 180) rfl) (by decide)
theorem k_Lw_law_277 : am_Snd gG mt yLw_law 277 (0, 0, 0, 0, 278, []) := sd_iconst 0 0 0 [] (da dk_Lw_law (k := 181) rfl)
theorem k_Lw_law_278 : am_Snd gG mt yLw_law 278 (72, 0, 0, 0, 279, []) := sd_zret 0 0 0 279 [] (da dk_Lw_law (k := 182) rfl) rfl
theorem k_Lw_law_279 : am_Snd gG mt yLw_law 279 (2, 0, 1, 0, 280, []) := sd_aload_n 0 1 0 [] rfl (da dk_Lw_law (k := 183) rfl)
theorem k_Lw_law_280 : am_Snd gG mt yLw_law 280 (2, 0, 0, 0, 281, []) := sd_aload_n 0 0 0 [] rfl (da dk_Lw_law (k := 184) rfl)
theorem k_Lw_law_281 : am_Snd gG mt yLw_law 281 (1, 0, 3, 0, 282, []) := sd_iload_n 0 3 0 [] rfl (da dk_Lw_law (k := 185) rfl)
theorem k_Lw_law_282 : am_Snd gG mt yLw_law 282 (0, 1, 0, 0, 283, []) := sd_iconst 1 0 0 [] (da dk_Lw_law (k := 186) rfl)
theorem k_Lw_law_283 : am_Snd gG mt yLw_law 283 (6, 0, 0, 0, 284, []) := sd_iadd 0 0 0 [] (da dk_Lw_law (k := 187) rfl)
theorem k_Lw_law_284 : am_Snd gG mt yLw_law 284 (42, 0, 99, 0, 285, []) := sd_sld 0 99 0 [] (da dk_Lw_law (k := 188) rfl) rfl
theorem k_Lw_law_285 : am_Snd gG mt yLw_law 285 (2, 0, 0, 0, 286, []) := sd_aload_n 0 0 0 [] rfl (da dk_Lw_law (k := 189) rfl)
theorem k_Lw_law_286 : am_Snd gG mt yLw_law 286 (1, 0, 3, 0, 287, []) := sd_iload_n 0 3 0 [] rfl (da dk_Lw_law (k := 190) rfl)
theorem k_Lw_law_287 : am_Snd gG mt yLw_law 287 (0, 2, 0, 0, 288, []) := sd_iconst 2 0 0 [] (da dk_Lw_law (k := 191) rfl)
theorem k_Lw_law_288 : am_Snd gG mt yLw_law 288 (6, 0, 0, 0, 289, []) := sd_iadd 0 0 0 [] (da dk_Lw_law (k := 192) rfl)
theorem k_Lw_law_289 : am_Snd gG mt yLw_law 289 (42, 0, 99, 0, 290, []) := sd_sld 0 99 0 [] (da dk_Lw_law (k := 193) rfl) rfl
theorem k_Lw_law_290 : am_Snd gG mt yLw_law 290 (61, 5, 76, 3, 293, [(0, 0)]) := sd_callV 5 76 3 0 mt_76 (da dk_Lw_law (k := 194) rfl) gG_ok rfl w_576 (List.forall_mem_cons.2 ⟨w_573, List.forall_mem_cons.2 ⟨w_574, List.forall_mem_cons.2 ⟨w_575, List.forall_mem_cons.2 ⟨w_47, fun _ h => absurd h List.not_mem_nil⟩⟩⟩⟩) hd_76 (by decide) rfl (Nat.le_of_ble_eq_true rfl) (Nat.le_of_ble_eq_true rfl)
theorem k_Lw_law_293 : am_Snd gG mt yLw_law 293 (2, 0, 2, 0, 294, []) := sd_aload_n 0 2 0 [] rfl (da dk_Lw_law (k := 195) rfl)
theorem k_Lw_law_294 : am_Snd gG mt yLw_law 294 (2, 0, 0, 0, 295, []) := sd_aload_n 0 0 0 [] rfl (da dk_Lw_law (k := 196) rfl)
theorem k_Lw_law_295 : am_Snd gG mt yLw_law 295 (1, 0, 3, 0, 296, []) := sd_iload_n 0 3 0 [] rfl (da dk_Lw_law (k := 197) rfl)
theorem k_Lw_law_296 : am_Snd gG mt yLw_law 296 (0, 1, 0, 0, 297, []) := sd_iconst 1 0 0 [] (da dk_Lw_law (k := 198) rfl)
theorem k_Lw_law_297 : am_Snd gG mt yLw_law 297 (6, 0, 0, 0, 298, []) := sd_iadd 0 0 0 [] (da dk_Lw_law (k := 199) rfl)
theorem k_Lw_law_298 : am_Snd gG mt yLw_law 298 (42, 0, 99, 0, 299, []) := sd_sld 0 99 0 [] (da dk_Lw_law (k := 200) rfl) rfl
theorem k_Lw_law_299 : am_Snd gG mt yLw_law 299 (2, 0, 0, 0, 300, []) := sd_aload_n 0 0 0 [] rfl (da dk_Lw_law (k := 201) rfl)
theorem k_Lw_law_300 : am_Snd gG mt yLw_law 300 (1, 0, 3, 0, 301, []) := sd_iload_n 0 3 0 [] rfl (da dk_Lw_law (k := 202) rfl)
theorem k_Lw_law_301 : am_Snd gG mt yLw_law 301 (0, 2, 0, 0, 302, []) := sd_iconst 2 0 0 [] (da dk_Lw_law (k := 203) rfl)
theorem k_Lw_law_302 : am_Snd gG mt yLw_law 302 (6, 0, 0, 0, 303, []) := sd_iadd 0 0 0 [] (da dk_Lw_law (k := 204) rfl)
theorem k_Lw_law_303 : am_Snd gG mt yLw_law 303 (42, 0, 99, 0, 304, []) := sd_sld 0 99 0 [] (da dk_Lw_law (k := 205) rfl) rfl
theorem k_Lw_law_304 : am_Snd gG mt yLw_law 304 (61, 2, 131, 3, 307, [(0, 7)]) := sd_callV 2 131 3 7 mt_131 (da dk_Lw_law (k := 206) rfl) gG_ok rfl w_900 (List.forall_mem_cons.2 ⟨w_897, List.forall_mem_cons.2 ⟨w_898, List.forall_mem_cons.2 ⟨w_899, List.forall_mem_cons.2 ⟨w_53, fun _ h => absurd h List.not_mem_nil⟩⟩⟩⟩) hd_131 (by decide) rfl (Nat.le_of_ble_eq_true rfl) (Nat.le_of_ble_eq_true rfl)
theorem k_Lw_law_307 : am_Snd gG mt yLw_law 307 (31, 0, 576, 0, 310, []) := sd_icmp_eq 0 576 [] (da dk_Lw_law (k := 207) rfl) (by decide)
theorem k_Lw_law_310 : am_Snd gG mt yLw_law 310 (0, 0, 0, 0, 311, []) := sd_iconst 0 0 0 [] (da dk_Lw_law (k := 208) rfl)
theorem k_Lw_law_311 : am_Snd gG mt yLw_law 311 (72, 0, 0, 0, 312, []) := sd_zret 0 0 0 312 [] (da dk_Lw_law (k := 209) rfl) rfl
theorem k_Lw_law_312 : am_Snd gG mt yLw_law 312 (2, 0, 1, 0, 313, []) := sd_aload_n 0 1 0 [] rfl (da dk_Lw_law (k := 210) rfl)
theorem k_Lw_law_313 : am_Snd gG mt yLw_law 313 (2, 0, 0, 0, 314, []) := sd_aload_n 0 0 0 [] rfl (da dk_Lw_law (k := 211) rfl)
theorem k_Lw_law_314 : am_Snd gG mt yLw_law 314 (1, 0, 3, 0, 315, []) := sd_iload_n 0 3 0 [] rfl (da dk_Lw_law (k := 212) rfl)
theorem k_Lw_law_315 : am_Snd gG mt yLw_law 315 (0, 1, 0, 0, 316, []) := sd_iconst 1 0 0 [] (da dk_Lw_law (k := 213) rfl)
theorem k_Lw_law_316 : am_Snd gG mt yLw_law 316 (6, 0, 0, 0, 317, []) := sd_iadd 0 0 0 [] (da dk_Lw_law (k := 214) rfl)
theorem k_Lw_law_317 : am_Snd gG mt yLw_law 317 (42, 0, 99, 0, 318, []) := sd_sld 0 99 0 [] (da dk_Lw_law (k := 215) rfl) rfl
theorem k_Lw_law_318 : am_Snd gG mt yLw_law 318 (2, 0, 0, 0, 319, []) := sd_aload_n 0 0 0 [] rfl (da dk_Lw_law (k := 216) rfl)
theorem k_Lw_law_319 : am_Snd gG mt yLw_law 319 (1, 0, 3, 0, 320, []) := sd_iload_n 0 3 0 [] rfl (da dk_Lw_law (k := 217) rfl)
theorem k_Lw_law_320 : am_Snd gG mt yLw_law 320 (0, 2, 0, 0, 321, []) := sd_iconst 2 0 0 [] (da dk_Lw_law (k := 218) rfl)
theorem k_Lw_law_321 : am_Snd gG mt yLw_law 321 (6, 0, 0, 0, 322, []) := sd_iadd 0 0 0 [] (da dk_Lw_law (k := 219) rfl)
theorem k_Lw_law_322 : am_Snd gG mt yLw_law 322 (42, 0, 99, 0, 323, []) := sd_sld 0 99 0 [] (da dk_Lw_law (k := 220) rfl) rfl
theorem k_Lw_law_323 : am_Snd gG mt yLw_law 323 (2, 0, 0, 0, 324, []) := sd_aload_n 0 0 0 [] rfl (da dk_Lw_law (k := 221) rfl)
theorem k_Lw_law_324 : am_Snd gG mt yLw_law 324 (1, 0, 3, 0, 325, []) := sd_iload_n 0 3 0 [] rfl (da dk_Lw_law (k := 222) rfl)
theorem k_Lw_law_325 : am_Snd gG mt yLw_law 325 (0, 3, 0, 0, 326, []) := sd_iconst 3 0 0 [] (da dk_Lw_law (k := 223) rfl)
theorem k_Lw_law_326 : am_Snd gG mt yLw_law 326 (6, 0, 0, 0, 327, []) := sd_iadd 0 0 0 [] (da dk_Lw_law (k := 224) rfl)
theorem k_Lw_law_327 : am_Snd gG mt yLw_law 327 (42, 0, 99, 0, 328, []) := sd_sld 0 99 0 [] (da dk_Lw_law (k := 225) rfl) rfl
theorem k_Lw_law_328 : am_Snd gG mt yLw_law 328 (61, 1, 79, 4, 331, [(0, 0)]) := sd_callV 1 79 4 0 mt_79 (da dk_Lw_law (k := 226) rfl) gG_ok rfl w_588 (List.forall_mem_cons.2 ⟨w_585, List.forall_mem_cons.2 ⟨w_586, List.forall_mem_cons.2 ⟨w_587, List.forall_mem_cons.2 ⟨w_47, fun _ h => absurd h List.not_mem_nil⟩⟩⟩⟩) hd_79 (by decide) rfl (Nat.le_of_ble_eq_true rfl) (Nat.le_of_ble_eq_true rfl)
theorem k_Lw_law_331 : am_Snd gG mt yLw_law 331 (2, 0, 2, 0, 332, []) := sd_aload_n 0 2 0 [] rfl (da dk_Lw_law (k := 227) rfl)
theorem k_Lw_law_332 : am_Snd gG mt yLw_law 332 (2, 0, 0, 0, 333, []) := sd_aload_n 0 0 0 [] rfl (da dk_Lw_law (k := 228) rfl)
theorem k_Lw_law_333 : am_Snd gG mt yLw_law 333 (1, 0, 3, 0, 334, []) := sd_iload_n 0 3 0 [] rfl (da dk_Lw_law (k := 229) rfl)
theorem k_Lw_law_334 : am_Snd gG mt yLw_law 334 (0, 1, 0, 0, 335, []) := sd_iconst 1 0 0 [] (da dk_Lw_law (k := 230) rfl)
theorem k_Lw_law_335 : am_Snd gG mt yLw_law 335 (6, 0, 0, 0, 336, []) := sd_iadd 0 0 0 [] (da dk_Lw_law (k := 231) rfl)
theorem k_Lw_law_336 : am_Snd gG mt yLw_law 336 (42, 0, 99, 0, 337, []) := sd_sld 0 99 0 [] (da dk_Lw_law (k := 232) rfl) rfl
theorem k_Lw_law_337 : am_Snd gG mt yLw_law 337 (2, 0, 0, 0, 338, []) := sd_aload_n 0 0 0 [] rfl (da dk_Lw_law (k := 233) rfl)
theorem k_Lw_law_338 : am_Snd gG mt yLw_law 338 (1, 0, 3, 0, 339, []) := sd_iload_n 0 3 0 [] rfl (da dk_Lw_law (k := 234) rfl)
theorem k_Lw_law_339 : am_Snd gG mt yLw_law 339 (0, 2, 0, 0, 340, []) := sd_iconst 2 0 0 [] (da dk_Lw_law (k := 235) rfl)
theorem k_Lw_law_340 : am_Snd gG mt yLw_law 340 (6, 0, 0, 0, 341, []) := sd_iadd 0 0 0 [] (da dk_Lw_law (k := 236) rfl)
theorem k_Lw_law_341 : am_Snd gG mt yLw_law 341 (42, 0, 99, 0, 342, []) := sd_sld 0 99 0 [] (da dk_Lw_law (k := 237) rfl) rfl
theorem k_Lw_law_342 : am_Snd gG mt yLw_law 342 (2, 0, 0, 0, 343, []) := sd_aload_n 0 0 0 [] rfl (da dk_Lw_law (k := 238) rfl)
theorem k_Lw_law_343 : am_Snd gG mt yLw_law 343 (1, 0, 3, 0, 344, []) := sd_iload_n 0 3 0 [] rfl (da dk_Lw_law (k := 239) rfl)
theorem k_Lw_law_344 : am_Snd gG mt yLw_law 344 (0, 3, 0, 0, 345, []) := sd_iconst 3 0 0 [] (da dk_Lw_law (k := 240) rfl)
theorem k_Lw_law_345 : am_Snd gG mt yLw_law 345 (6, 0, 0, 0, 346, []) := sd_iadd 0 0 0 [] (da dk_Lw_law (k := 241) rfl)
theorem k_Lw_law_346 : am_Snd gG mt yLw_law 346 (42, 0, 99, 0, 347, []) := sd_sld 0 99 0 [] (da dk_Lw_law (k := 242) rfl) rfl
theorem k_Lw_law_347 : am_Snd gG mt yLw_law 347 (61, 1, 132, 4, 350, [(0, 7)]) := sd_callV 1 132 4 7 mt_132 (da dk_Lw_law (k := 243) rfl) gG_ok rfl w_904 (List.forall_mem_cons.2 ⟨w_901, List.forall_mem_cons.2 ⟨w_902, List.forall_mem_cons.2 ⟨w_903, List.forall_mem_cons.2 ⟨w_53, fun _ h => absurd h List.not_mem_nil⟩⟩⟩⟩) hd_132 (by decide) rfl (Nat.le_of_ble_eq_true rfl) (Nat.le_of_ble_eq_true rfl)
theorem k_Lw_law_350 : am_Snd gG mt yLw_law 350 (31, 0, 576, 0, 353, []) := sd_icmp_eq 0 576 [] (da dk_Lw_law (k := 244) rfl) (by decide)
theorem k_Lw_law_353 : am_Snd gG mt yLw_law 353 (0, 0, 0, 0, 354, []) := sd_iconst 0 0 0 [] (da dk_Lw_law (k := 245) rfl)
theorem k_Lw_law_354 : am_Snd gG mt yLw_law 354 (72, 0, 0, 0, 355, []) := sd_zret 0 0 0 355 [] (da dk_Lw_law (k := 246) rfl) rfl
theorem k_Lw_law_355 : am_Snd gG mt yLw_law 355 (2, 0, 1, 0, 356, []) := sd_aload_n 0 1 0 [] rfl (da dk_Lw_law (k := 247) rfl)
theorem k_Lw_law_356 : am_Snd gG mt yLw_law 356 (2, 0, 0, 0, 357, []) := sd_aload_n 0 0 0 [] rfl (da dk_Lw_law (k := 248) rfl)
theorem k_Lw_law_357 : am_Snd gG mt yLw_law 357 (1, 0, 3, 0, 358, []) := sd_iload_n 0 3 0 [] rfl (da dk_Lw_law (k := 249) rfl)
theorem k_Lw_law_358 : am_Snd gG mt yLw_law 358 (0, 1, 0, 0, 359, []) := sd_iconst 1 0 0 [] (da dk_Lw_law (k := 250) rfl)
theorem k_Lw_law_359 : am_Snd gG mt yLw_law 359 (6, 0, 0, 0, 360, []) := sd_iadd 0 0 0 [] (da dk_Lw_law (k := 251) rfl)
theorem k_Lw_law_360 : am_Snd gG mt yLw_law 360 (42, 0, 99, 0, 361, []) := sd_sld 0 99 0 [] (da dk_Lw_law (k := 252) rfl) rfl
theorem k_Lw_law_361 : am_Snd gG mt yLw_law 361 (2, 0, 0, 0, 362, []) := sd_aload_n 0 0 0 [] rfl (da dk_Lw_law (k := 253) rfl)
theorem k_Lw_law_362 : am_Snd gG mt yLw_law 362 (1, 0, 3, 0, 363, []) := sd_iload_n 0 3 0 [] rfl (da dk_Lw_law (k := 254) rfl)
theorem k_Lw_law_363 : am_Snd gG mt yLw_law 363 (0, 2, 0, 0, 364, []) := sd_iconst 2 0 0 [] (da dk_Lw_law (k := 255) rfl)
theorem k_Lw_law_364 : am_Snd gG mt yLw_law 364 (6, 0, 0, 0, 365, []) := sd_iadd 0 0 0 [] (da dk_Lw_law (k := 256) rfl)
theorem k_Lw_law_365 : am_Snd gG mt yLw_law 365 (42, 0, 99, 0, 366, []) := sd_sld 0 99 0 [] (da dk_Lw_law (k := 257) rfl) rfl
theorem k_Lw_law_366 : am_Snd gG mt yLw_law 366 (2, 0, 0, 0, 367, []) := sd_aload_n 0 0 0 [] rfl (da dk_Lw_law (k := 258) rfl)
theorem k_Lw_law_367 : am_Snd gG mt yLw_law 367 (1, 0, 3, 0, 368, []) := sd_iload_n 0 3 0 [] rfl (da dk_Lw_law (k := 259) rfl)
theorem k_Lw_law_368 : am_Snd gG mt yLw_law 368 (0, 3, 0, 0, 369, []) := sd_iconst 3 0 0 [] (da dk_Lw_law (k := 260) rfl)
theorem k_Lw_law_369 : am_Snd gG mt yLw_law 369 (6, 0, 0, 0, 370, []) := sd_iadd 0 0 0 [] (da dk_Lw_law (k := 261) rfl)
theorem k_Lw_law_370 : am_Snd gG mt yLw_law 370 (42, 0, 99, 0, 371, []) := sd_sld 0 99 0 [] (da dk_Lw_law (k := 262) rfl) rfl
theorem k_Lw_law_371 : am_Snd gG mt yLw_law 371 (61, 1, 82, 4, 374, [(0, 0)]) := sd_callV 1 82 4 0 mt_82 (da dk_Lw_law (k := 263) rfl) gG_ok rfl w_601 (List.forall_mem_cons.2 ⟨w_598, List.forall_mem_cons.2 ⟨w_599, List.forall_mem_cons.2 ⟨w_600, List.forall_mem_cons.2 ⟨w_47, fun _ h => absurd h List.not_mem_nil⟩⟩⟩⟩) hd_82 (by decide) rfl (Nat.le_of_ble_eq_true rfl) (Nat.le_of_ble_eq_true rfl)
theorem k_Lw_law_374 : am_Snd gG mt yLw_law 374 (2, 0, 2, 0, 375, []) := sd_aload_n 0 2 0 [] rfl (da dk_Lw_law (k := 264) rfl)
theorem k_Lw_law_375 : am_Snd gG mt yLw_law 375 (2, 0, 0, 0, 376, []) := sd_aload_n 0 0 0 [] rfl (da dk_Lw_law (k := 265) rfl)
theorem k_Lw_law_376 : am_Snd gG mt yLw_law 376 (1, 0, 3, 0, 377, []) := sd_iload_n 0 3 0 [] rfl (da dk_Lw_law (k := 266) rfl)
theorem k_Lw_law_377 : am_Snd gG mt yLw_law 377 (0, 1, 0, 0, 378, []) := sd_iconst 1 0 0 [] (da dk_Lw_law (k := 267) rfl)
theorem k_Lw_law_378 : am_Snd gG mt yLw_law 378 (6, 0, 0, 0, 379, []) := sd_iadd 0 0 0 [] (da dk_Lw_law (k := 268) rfl)
theorem k_Lw_law_379 : am_Snd gG mt yLw_law 379 (42, 0, 99, 0, 380, []) := sd_sld 0 99 0 [] (da dk_Lw_law (k := 269) rfl) rfl
theorem k_Lw_law_380 : am_Snd gG mt yLw_law 380 (2, 0, 0, 0, 381, []) := sd_aload_n 0 0 0 [] rfl (da dk_Lw_law (k := 270) rfl)
theorem k_Lw_law_381 : am_Snd gG mt yLw_law 381 (1, 0, 3, 0, 382, []) := sd_iload_n 0 3 0 [] rfl (da dk_Lw_law (k := 271) rfl)
theorem k_Lw_law_382 : am_Snd gG mt yLw_law 382 (0, 2, 0, 0, 383, []) := sd_iconst 2 0 0 [] (da dk_Lw_law (k := 272) rfl)
theorem k_Lw_law_383 : am_Snd gG mt yLw_law 383 (6, 0, 0, 0, 384, []) := sd_iadd 0 0 0 [] (da dk_Lw_law (k := 273) rfl)
theorem k_Lw_law_384 : am_Snd gG mt yLw_law 384 (42, 0, 99, 0, 385, []) := sd_sld 0 99 0 [] (da dk_Lw_law (k := 274) rfl) rfl
theorem k_Lw_law_385 : am_Snd gG mt yLw_law 385 (2, 0, 0, 0, 386, []) := sd_aload_n 0 0 0 [] rfl (da dk_Lw_law (k := 275) rfl)
theorem k_Lw_law_386 : am_Snd gG mt yLw_law 386 (1, 0, 3, 0, 387, []) := sd_iload_n 0 3 0 [] rfl (da dk_Lw_law (k := 276) rfl)
theorem k_Lw_law_387 : am_Snd gG mt yLw_law 387 (0, 3, 0, 0, 388, []) := sd_iconst 3 0 0 [] (da dk_Lw_law (k := 277) rfl)
theorem k_Lw_law_388 : am_Snd gG mt yLw_law 388 (6, 0, 0, 0, 389, []) := sd_iadd 0 0 0 [] (da dk_Lw_law (k := 278) rfl)
theorem k_Lw_law_389 : am_Snd gG mt yLw_law 389 (42, 0, 99, 0, 390, []) := sd_sld 0 99 0 [] (da dk_Lw_law (k := 279) rfl) rfl
theorem k_Lw_law_390 : am_Snd gG mt yLw_law 390 (61, 1, 133, 4, 393, [(0, 7)]) := sd_callV 1 133 4 7 mt_133 (da dk_Lw_law (k := 280) rfl) gG_ok rfl w_908 (List.forall_mem_cons.2 ⟨w_905, List.forall_mem_cons.2 ⟨w_906, List.forall_mem_cons.2 ⟨w_907, List.forall_mem_cons.2 ⟨w_53, fun _ h => absurd h List.not_mem_nil⟩⟩⟩⟩) hd_133 (by decide) rfl (Nat.le_of_ble_eq_true rfl) (Nat.le_of_ble_eq_true rfl)
theorem k_Lw_law_393 : am_Snd gG mt yLw_law 393 (31, 0, 576, 0, 396, []) := sd_icmp_eq 0 576 [] (da dk_Lw_law (k := 281) rfl) (by decide)
theorem k_Lw_law_396 : am_Snd gG mt yLw_law 396 (0, 0, 0, 0, 397, []) := sd_iconst 0 0 0 [] (da dk_Lw_law (k := 282) rfl)
theorem k_Lw_law_397 : am_Snd gG mt yLw_law 397 (72, 0, 0, 0, 398, []) := sd_zret 0 0 0 398 [] (da dk_Lw_law (k := 283) rfl) rfl
theorem k_Lw_law_398 : am_Snd gG mt yLw_law 398 (2, 0, 1, 0, 399, []) := sd_aload_n 0 1 0 [] rfl (da dk_Lw_law (k := 284) rfl)
theorem k_Lw_law_399 : am_Snd gG mt yLw_law 399 (2, 0, 0, 0, 400, []) := sd_aload_n 0 0 0 [] rfl (da dk_Lw_law (k := 285) rfl)
theorem k_Lw_law_400 : am_Snd gG mt yLw_law 400 (1, 0, 3, 0, 401, []) := sd_iload_n 0 3 0 [] rfl (da dk_Lw_law (k := 286) rfl)
theorem k_Lw_law_401 : am_Snd gG mt yLw_law 401 (0, 1, 0, 0, 402, []) := sd_iconst 1 0 0 [] (da dk_Lw_law (k := 287) rfl)
theorem k_Lw_law_402 : am_Snd gG mt yLw_law 402 (6, 0, 0, 0, 403, []) := sd_iadd 0 0 0 [] (da dk_Lw_law (k := 288) rfl)
theorem k_Lw_law_403 : am_Snd gG mt yLw_law 403 (42, 0, 99, 0, 404, []) := sd_sld 0 99 0 [] (da dk_Lw_law (k := 289) rfl) rfl
theorem k_Lw_law_404 : am_Snd gG mt yLw_law 404 (2, 0, 0, 0, 405, []) := sd_aload_n 0 0 0 [] rfl (da dk_Lw_law (k := 290) rfl)
theorem k_Lw_law_405 : am_Snd gG mt yLw_law 405 (1, 0, 3, 0, 406, []) := sd_iload_n 0 3 0 [] rfl (da dk_Lw_law (k := 291) rfl)
theorem k_Lw_law_406 : am_Snd gG mt yLw_law 406 (0, 2, 0, 0, 407, []) := sd_iconst 2 0 0 [] (da dk_Lw_law (k := 292) rfl)
theorem k_Lw_law_407 : am_Snd gG mt yLw_law 407 (6, 0, 0, 0, 408, []) := sd_iadd 0 0 0 [] (da dk_Lw_law (k := 293) rfl)
theorem k_Lw_law_408 : am_Snd gG mt yLw_law 408 (42, 0, 99, 0, 409, []) := sd_sld 0 99 0 [] (da dk_Lw_law (k := 294) rfl) rfl
theorem k_Lw_law_409 : am_Snd gG mt yLw_law 409 (61, 1, 83, 3, 412, [(0, 0)]) := sd_callV 1 83 3 0 mt_83 (da dk_Lw_law (k := 295) rfl) gG_ok rfl w_605 (List.forall_mem_cons.2 ⟨w_602, List.forall_mem_cons.2 ⟨w_603, List.forall_mem_cons.2 ⟨w_604, List.forall_mem_cons.2 ⟨w_47, fun _ h => absurd h List.not_mem_nil⟩⟩⟩⟩) hd_83 (by decide) rfl (Nat.le_of_ble_eq_true rfl) (Nat.le_of_ble_eq_true rfl)
theorem k_Lw_law_412 : am_Snd gG mt yLw_law 412 (2, 0, 2, 0, 413, []) := sd_aload_n 0 2 0 [] rfl (da dk_Lw_law (k := 296) rfl)
theorem k_Lw_law_413 : am_Snd gG mt yLw_law 413 (2, 0, 0, 0, 414, []) := sd_aload_n 0 0 0 [] rfl (da dk_Lw_law (k := 297) rfl)
theorem k_Lw_law_414 : am_Snd gG mt yLw_law 414 (1, 0, 3, 0, 415, []) := sd_iload_n 0 3 0 [] rfl (da dk_Lw_law (k := 298) rfl)
theorem k_Lw_law_415 : am_Snd gG mt yLw_law 415 (0, 1, 0, 0, 416, []) := sd_iconst 1 0 0 [] (da dk_Lw_law (k := 299) rfl)
theorem k_Lw_law_416 : am_Snd gG mt yLw_law 416 (6, 0, 0, 0, 417, []) := sd_iadd 0 0 0 [] (da dk_Lw_law (k := 300) rfl)
theorem k_Lw_law_417 : am_Snd gG mt yLw_law 417 (42, 0, 99, 0, 418, []) := sd_sld 0 99 0 [] (da dk_Lw_law (k := 301) rfl) rfl
theorem k_Lw_law_418 : am_Snd gG mt yLw_law 418 (2, 0, 0, 0, 419, []) := sd_aload_n 0 0 0 [] rfl (da dk_Lw_law (k := 302) rfl)
theorem k_Lw_law_419 : am_Snd gG mt yLw_law 419 (1, 0, 3, 0, 420, []) := sd_iload_n 0 3 0 [] rfl (da dk_Lw_law (k := 303) rfl)
theorem k_Lw_law_420 : am_Snd gG mt yLw_law 420 (0, 2, 0, 0, 421, []) := sd_iconst 2 0 0 [] (da dk_Lw_law (k := 304) rfl)
theorem k_Lw_law_421 : am_Snd gG mt yLw_law 421 (6, 0, 0, 0, 422, []) := sd_iadd 0 0 0 [] (da dk_Lw_law (k := 305) rfl)
theorem k_Lw_law_422 : am_Snd gG mt yLw_law 422 (42, 0, 99, 0, 423, []) := sd_sld 0 99 0 [] (da dk_Lw_law (k := 306) rfl) rfl
theorem k_Lw_law_423 : am_Snd gG mt yLw_law 423 (61, 0, 134, 3, 426, [(0, 7)]) := sd_callV 0 134 3 7 mt_134 (da dk_Lw_law (k := 307) rfl) gG_ok rfl w_912 (List.forall_mem_cons.2 ⟨w_909, List.forall_mem_cons.2 ⟨w_910, List.forall_mem_cons.2 ⟨w_911, List.forall_mem_cons.2 ⟨w_53, fun _ h => absurd h List.not_mem_nil⟩⟩⟩⟩) hd_134 (by decide) rfl (Nat.le_of_ble_eq_true rfl) (Nat.le_of_ble_eq_true rfl)
theorem k_Lw_law_426 : am_Snd gG mt yLw_law 426 (31, 0, 576, 0, 429, []) := sd_icmp_eq 0 576 [] (da dk_Lw_law (k := 308) rfl) (by decide)
theorem k_Lw_law_429 : am_Snd gG mt yLw_law 429 (0, 0, 0, 0, 430, []) := sd_iconst 0 0 0 [] (da dk_Lw_law (k := 309) rfl)
theorem k_Lw_law_430 : am_Snd gG mt yLw_law 430 (72, 0, 0, 0, 431, []) := sd_zret 0 0 0 431 [] (da dk_Lw_law (k := 310) rfl) rfl
theorem k_Lw_law_431 : am_Snd gG mt yLw_law 431 (2, 0, 1, 0, 432, []) := sd_aload_n 0 1 0 [] rfl (da dk_Lw_law (k := 311) rfl)
theorem k_Lw_law_432 : am_Snd gG mt yLw_law 432 (2, 0, 0, 0, 433, []) := sd_aload_n 0 0 0 [] rfl (da dk_Lw_law (k := 312) rfl)
theorem k_Lw_law_433 : am_Snd gG mt yLw_law 433 (1, 0, 3, 0, 434, []) := sd_iload_n 0 3 0 [] rfl (da dk_Lw_law (k := 313) rfl)
theorem k_Lw_law_434 : am_Snd gG mt yLw_law 434 (0, 1, 0, 0, 435, []) := sd_iconst 1 0 0 [] (da dk_Lw_law (k := 314) rfl)
theorem k_Lw_law_435 : am_Snd gG mt yLw_law 435 (6, 0, 0, 0, 436, []) := sd_iadd 0 0 0 [] (da dk_Lw_law (k := 315) rfl)
theorem k_Lw_law_436 : am_Snd gG mt yLw_law 436 (42, 0, 99, 0, 437, []) := sd_sld 0 99 0 [] (da dk_Lw_law (k := 316) rfl) rfl
theorem k_Lw_law_437 : am_Snd gG mt yLw_law 437 (2, 0, 0, 0, 438, []) := sd_aload_n 0 0 0 [] rfl (da dk_Lw_law (k := 317) rfl)
theorem k_Lw_law_438 : am_Snd gG mt yLw_law 438 (1, 0, 3, 0, 439, []) := sd_iload_n 0 3 0 [] rfl (da dk_Lw_law (k := 318) rfl)
theorem k_Lw_law_439 : am_Snd gG mt yLw_law 439 (0, 2, 0, 0, 440, []) := sd_iconst 2 0 0 [] (da dk_Lw_law (k := 319) rfl)
theorem k_Lw_law_440 : am_Snd gG mt yLw_law 440 (6, 0, 0, 0, 441, []) := sd_iadd 0 0 0 [] (da dk_Lw_law (k := 320) rfl)
theorem k_Lw_law_441 : am_Snd gG mt yLw_law 441 (42, 0, 99, 0, 442, []) := sd_sld 0 99 0 [] (da dk_Lw_law (k := 321) rfl) rfl
theorem k_Lw_law_442 : am_Snd gG mt yLw_law 442 (61, 1, 85, 3, 445, [(0, 0)]) := sd_callV 1 85 3 0 mt_85 (da dk_Lw_law (k := 322) rfl) gG_ok rfl w_613 (List.forall_mem_cons.2 ⟨w_610, List.forall_mem_cons.2 ⟨w_611, List.forall_mem_cons.2 ⟨w_612, List.forall_mem_cons.2 ⟨w_47, fun _ h => absurd h List.not_mem_nil⟩⟩⟩⟩) hd_85 (by decide) rfl (Nat.le_of_ble_eq_true rfl) (Nat.le_of_ble_eq_true rfl)
theorem k_Lw_law_445 : am_Snd gG mt yLw_law 445 (2, 0, 2, 0, 446, []) := sd_aload_n 0 2 0 [] rfl (da dk_Lw_law (k := 323) rfl)
theorem k_Lw_law_446 : am_Snd gG mt yLw_law 446 (2, 0, 0, 0, 447, []) := sd_aload_n 0 0 0 [] rfl (da dk_Lw_law (k := 324) rfl)
theorem k_Lw_law_447 : am_Snd gG mt yLw_law 447 (1, 0, 3, 0, 448, []) := sd_iload_n 0 3 0 [] rfl (da dk_Lw_law (k := 325) rfl)
theorem k_Lw_law_448 : am_Snd gG mt yLw_law 448 (0, 1, 0, 0, 449, []) := sd_iconst 1 0 0 [] (da dk_Lw_law (k := 326) rfl)
theorem k_Lw_law_449 : am_Snd gG mt yLw_law 449 (6, 0, 0, 0, 450, []) := sd_iadd 0 0 0 [] (da dk_Lw_law (k := 327) rfl)
theorem k_Lw_law_450 : am_Snd gG mt yLw_law 450 (42, 0, 99, 0, 451, []) := sd_sld 0 99 0 [] (da dk_Lw_law (k := 328) rfl) rfl
theorem k_Lw_law_451 : am_Snd gG mt yLw_law 451 (2, 0, 0, 0, 452, []) := sd_aload_n 0 0 0 [] rfl (da dk_Lw_law (k := 329) rfl)
theorem k_Lw_law_452 : am_Snd gG mt yLw_law 452 (1, 0, 3, 0, 453, []) := sd_iload_n 0 3 0 [] rfl (da dk_Lw_law (k := 330) rfl)
theorem k_Lw_law_453 : am_Snd gG mt yLw_law 453 (0, 2, 0, 0, 454, []) := sd_iconst 2 0 0 [] (da dk_Lw_law (k := 331) rfl)
theorem k_Lw_law_454 : am_Snd gG mt yLw_law 454 (6, 0, 0, 0, 455, []) := sd_iadd 0 0 0 [] (da dk_Lw_law (k := 332) rfl)
theorem k_Lw_law_455 : am_Snd gG mt yLw_law 455 (42, 0, 99, 0, 456, []) := sd_sld 0 99 0 [] (da dk_Lw_law (k := 333) rfl) rfl
theorem k_Lw_law_456 : am_Snd gG mt yLw_law 456 (61, 0, 135, 3, 459, [(0, 7)]) := sd_callV 0 135 3 7 mt_135 (da dk_Lw_law (k := 334) rfl) gG_ok rfl w_916 (List.forall_mem_cons.2 ⟨w_913, List.forall_mem_cons.2 ⟨w_914, List.forall_mem_cons.2 ⟨w_915, List.forall_mem_cons.2 ⟨w_53, fun _ h => absurd h List.not_mem_nil⟩⟩⟩⟩) hd_135 (by decide) rfl (Nat.le_of_ble_eq_true rfl) (Nat.le_of_ble_eq_true rfl)
theorem k_Lw_law_459 : am_Snd gG mt yLw_law 459 (31, 0, 576, 0, 462, []) := sd_icmp_eq 0 576 [] (da dk_Lw_law (k := 335) rfl) (by decide)
theorem k_Lw_law_462 : am_Snd gG mt yLw_law 462 (0, 0, 0, 0, 463, []) := sd_iconst 0 0 0 [] (da dk_Lw_law (k := 336) rfl)
theorem k_Lw_law_463 : am_Snd gG mt yLw_law 463 (72, 0, 0, 0, 464, []) := sd_zret 0 0 0 464 [] (da dk_Lw_law (k := 337) rfl) rfl
theorem k_Lw_law_464 : am_Snd gG mt yLw_law 464 (2, 0, 1, 0, 465, []) := sd_aload_n 0 1 0 [] rfl (da dk_Lw_law (k := 338) rfl)
theorem k_Lw_law_465 : am_Snd gG mt yLw_law 465 (2, 0, 0, 0, 466, []) := sd_aload_n 0 0 0 [] rfl (da dk_Lw_law (k := 339) rfl)
theorem k_Lw_law_466 : am_Snd gG mt yLw_law 466 (1, 0, 3, 0, 467, []) := sd_iload_n 0 3 0 [] rfl (da dk_Lw_law (k := 340) rfl)
theorem k_Lw_law_467 : am_Snd gG mt yLw_law 467 (0, 1, 0, 0, 468, []) := sd_iconst 1 0 0 [] (da dk_Lw_law (k := 341) rfl)
theorem k_Lw_law_468 : am_Snd gG mt yLw_law 468 (6, 0, 0, 0, 469, []) := sd_iadd 0 0 0 [] (da dk_Lw_law (k := 342) rfl)
theorem k_Lw_law_469 : am_Snd gG mt yLw_law 469 (42, 0, 99, 0, 470, []) := sd_sld 0 99 0 [] (da dk_Lw_law (k := 343) rfl) rfl
theorem k_Lw_law_470 : am_Snd gG mt yLw_law 470 (2, 0, 0, 0, 471, []) := sd_aload_n 0 0 0 [] rfl (da dk_Lw_law (k := 344) rfl)
theorem k_Lw_law_471 : am_Snd gG mt yLw_law 471 (1, 0, 3, 0, 472, []) := sd_iload_n 0 3 0 [] rfl (da dk_Lw_law (k := 345) rfl)
theorem k_Lw_law_472 : am_Snd gG mt yLw_law 472 (0, 2, 0, 0, 473, []) := sd_iconst 2 0 0 [] (da dk_Lw_law (k := 346) rfl)
theorem k_Lw_law_473 : am_Snd gG mt yLw_law 473 (6, 0, 0, 0, 474, []) := sd_iadd 0 0 0 [] (da dk_Lw_law (k := 347) rfl)
theorem k_Lw_law_474 : am_Snd gG mt yLw_law 474 (42, 0, 99, 0, 475, []) := sd_sld 0 99 0 [] (da dk_Lw_law (k := 348) rfl) rfl
theorem k_Lw_law_475 : am_Snd gG mt yLw_law 475 (61, 1, 86, 3, 478, [(0, 0)]) := sd_callV 1 86 3 0 mt_86 (da dk_Lw_law (k := 349) rfl) gG_ok rfl w_618 (List.forall_mem_cons.2 ⟨w_615, List.forall_mem_cons.2 ⟨w_616, List.forall_mem_cons.2 ⟨w_617, List.forall_mem_cons.2 ⟨w_47, fun _ h => absurd h List.not_mem_nil⟩⟩⟩⟩) hd_86 (by decide) rfl (Nat.le_of_ble_eq_true rfl) (Nat.le_of_ble_eq_true rfl)
theorem k_Lw_law_478 : am_Snd gG mt yLw_law 478 (2, 0, 2, 0, 479, []) := sd_aload_n 0 2 0 [] rfl (da dk_Lw_law (k := 350) rfl)
theorem k_Lw_law_479 : am_Snd gG mt yLw_law 479 (2, 0, 0, 0, 480, []) := sd_aload_n 0 0 0 [] rfl (da dk_Lw_law (k := 351) rfl)
theorem k_Lw_law_480 : am_Snd gG mt yLw_law 480 (1, 0, 3, 0, 481, []) := sd_iload_n 0 3 0 [] rfl (da dk_Lw_law (k := 352) rfl)
theorem k_Lw_law_481 : am_Snd gG mt yLw_law 481 (0, 1, 0, 0, 482, []) := sd_iconst 1 0 0 [] (da dk_Lw_law (k := 353) rfl)
theorem k_Lw_law_482 : am_Snd gG mt yLw_law 482 (6, 0, 0, 0, 483, []) := sd_iadd 0 0 0 [] (da dk_Lw_law (k := 354) rfl)
theorem k_Lw_law_483 : am_Snd gG mt yLw_law 483 (42, 0, 99, 0, 484, []) := sd_sld 0 99 0 [] (da dk_Lw_law (k := 355) rfl) rfl
theorem k_Lw_law_484 : am_Snd gG mt yLw_law 484 (2, 0, 0, 0, 485, []) := sd_aload_n 0 0 0 [] rfl (da dk_Lw_law (k := 356) rfl)
theorem k_Lw_law_485 : am_Snd gG mt yLw_law 485 (1, 0, 3, 0, 486, []) := sd_iload_n 0 3 0 [] rfl (da dk_Lw_law (k := 357) rfl)
theorem k_Lw_law_486 : am_Snd gG mt yLw_law 486 (0, 2, 0, 0, 487, []) := sd_iconst 2 0 0 [] (da dk_Lw_law (k := 358) rfl)
theorem k_Lw_law_487 : am_Snd gG mt yLw_law 487 (6, 0, 0, 0, 488, []) := sd_iadd 0 0 0 [] (da dk_Lw_law (k := 359) rfl)
theorem k_Lw_law_488 : am_Snd gG mt yLw_law 488 (42, 0, 99, 0, 489, []) := sd_sld 0 99 0 [] (da dk_Lw_law (k := 360) rfl) rfl
theorem k_Lw_law_489 : am_Snd gG mt yLw_law 489 (61, 0, 136, 3, 492, [(0, 7)]) := sd_callV 0 136 3 7 mt_136 (da dk_Lw_law (k := 361) rfl) gG_ok rfl w_920 (List.forall_mem_cons.2 ⟨w_917, List.forall_mem_cons.2 ⟨w_918, List.forall_mem_cons.2 ⟨w_919, List.forall_mem_cons.2 ⟨w_53, fun _ h => absurd h List.not_mem_nil⟩⟩⟩⟩) hd_136 (by decide) rfl (Nat.le_of_ble_eq_true rfl) (Nat.le_of_ble_eq_true rfl)
theorem k_Lw_law_492 : am_Snd gG mt yLw_law 492 (31, 0, 576, 0, 495, []) := sd_icmp_eq 0 576 [] (da dk_Lw_law (k := 362) rfl) (by decide)
theorem k_Lw_law_495 : am_Snd gG mt yLw_law 495 (0, 0, 0, 0, 496, []) := sd_iconst 0 0 0 [] (da dk_Lw_law (k := 363) rfl)
theorem k_Lw_law_496 : am_Snd gG mt yLw_law 496 (72, 0, 0, 0, 497, []) := sd_zret 0 0 0 497 [] (da dk_Lw_law (k := 364) rfl) rfl
theorem k_Lw_law_497 : am_Snd gG mt yLw_law 497 (2, 0, 1, 0, 498, []) := sd_aload_n 0 1 0 [] rfl (da dk_Lw_law (k := 365) rfl)
theorem k_Lw_law_498 : am_Snd gG mt yLw_law 498 (2, 0, 0, 0, 499, []) := sd_aload_n 0 0 0 [] rfl (da dk_Lw_law (k := 366) rfl)
theorem k_Lw_law_499 : am_Snd gG mt yLw_law 499 (1, 0, 3, 0, 500, []) := sd_iload_n 0 3 0 [] rfl (da dk_Lw_law (k := 367) rfl)
theorem k_Lw_law_500 : am_Snd gG mt yLw_law 500 (0, 1, 0, 0, 501, []) := sd_iconst 1 0 0 [] (da dk_Lw_law (k := 368) rfl)
theorem k_Lw_law_501 : am_Snd gG mt yLw_law 501 (6, 0, 0, 0, 502, []) := sd_iadd 0 0 0 [] (da dk_Lw_law (k := 369) rfl)
theorem k_Lw_law_502 : am_Snd gG mt yLw_law 502 (42, 0, 99, 0, 503, []) := sd_sld 0 99 0 [] (da dk_Lw_law (k := 370) rfl) rfl
theorem k_Lw_law_503 : am_Snd gG mt yLw_law 503 (2, 0, 0, 0, 504, []) := sd_aload_n 0 0 0 [] rfl (da dk_Lw_law (k := 371) rfl)
theorem k_Lw_law_504 : am_Snd gG mt yLw_law 504 (1, 0, 3, 0, 505, []) := sd_iload_n 0 3 0 [] rfl (da dk_Lw_law (k := 372) rfl)
theorem k_Lw_law_505 : am_Snd gG mt yLw_law 505 (0, 2, 0, 0, 506, []) := sd_iconst 2 0 0 [] (da dk_Lw_law (k := 373) rfl)
theorem k_Lw_law_506 : am_Snd gG mt yLw_law 506 (6, 0, 0, 0, 507, []) := sd_iadd 0 0 0 [] (da dk_Lw_law (k := 374) rfl)
theorem k_Lw_law_507 : am_Snd gG mt yLw_law 507 (42, 0, 99, 0, 508, []) := sd_sld 0 99 0 [] (da dk_Lw_law (k := 375) rfl) rfl
theorem k_Lw_law_508 : am_Snd gG mt yLw_law 508 (61, 1, 88, 3, 511, [(0, 0)]) := sd_callV 1 88 3 0 mt_88 (da dk_Lw_law (k := 376) rfl) gG_ok rfl w_626 (List.forall_mem_cons.2 ⟨w_623, List.forall_mem_cons.2 ⟨w_624, List.forall_mem_cons.2 ⟨w_625, List.forall_mem_cons.2 ⟨w_47, fun _ h => absurd h List.not_mem_nil⟩⟩⟩⟩) hd_88 (by decide) rfl (Nat.le_of_ble_eq_true rfl) (Nat.le_of_ble_eq_true rfl)
theorem k_Lw_law_511 : am_Snd gG mt yLw_law 511 (2, 0, 2, 0, 512, []) := sd_aload_n 0 2 0 [] rfl (da dk_Lw_law (k := 377) rfl)
theorem k_Lw_law_512 : am_Snd gG mt yLw_law 512 (2, 0, 0, 0, 513, []) := sd_aload_n 0 0 0 [] rfl (da dk_Lw_law (k := 378) rfl)
theorem k_Lw_law_513 : am_Snd gG mt yLw_law 513 (1, 0, 3, 0, 514, []) := sd_iload_n 0 3 0 [] rfl (da dk_Lw_law (k := 379) rfl)
theorem k_Lw_law_514 : am_Snd gG mt yLw_law 514 (0, 1, 0, 0, 515, []) := sd_iconst 1 0 0 [] (da dk_Lw_law (k := 380) rfl)
theorem k_Lw_law_515 : am_Snd gG mt yLw_law 515 (6, 0, 0, 0, 516, []) := sd_iadd 0 0 0 [] (da dk_Lw_law (k := 381) rfl)
theorem k_Lw_law_516 : am_Snd gG mt yLw_law 516 (42, 0, 99, 0, 517, []) := sd_sld 0 99 0 [] (da dk_Lw_law (k := 382) rfl) rfl
theorem k_Lw_law_517 : am_Snd gG mt yLw_law 517 (2, 0, 0, 0, 518, []) := sd_aload_n 0 0 0 [] rfl (da dk_Lw_law (k := 383) rfl)
theorem k_Lw_law_518 : am_Snd gG mt yLw_law 518 (1, 0, 3, 0, 519, []) := sd_iload_n 0 3 0 [] rfl (da dk_Lw_law (k := 384) rfl)
theorem k_Lw_law_519 : am_Snd gG mt yLw_law 519 (0, 2, 0, 0, 520, []) := sd_iconst 2 0 0 [] (da dk_Lw_law (k := 385) rfl)
theorem k_Lw_law_520 : am_Snd gG mt yLw_law 520 (6, 0, 0, 0, 521, []) := sd_iadd 0 0 0 [] (da dk_Lw_law (k := 386) rfl)
theorem k_Lw_law_521 : am_Snd gG mt yLw_law 521 (42, 0, 99, 0, 522, []) := sd_sld 0 99 0 [] (da dk_Lw_law (k := 387) rfl) rfl
theorem k_Lw_law_522 : am_Snd gG mt yLw_law 522 (61, 2, 137, 3, 525, [(0, 7)]) := sd_callV 2 137 3 7 mt_137 (da dk_Lw_law (k := 388) rfl) gG_ok rfl w_924 (List.forall_mem_cons.2 ⟨w_921, List.forall_mem_cons.2 ⟨w_922, List.forall_mem_cons.2 ⟨w_923, List.forall_mem_cons.2 ⟨w_53, fun _ h => absurd h List.not_mem_nil⟩⟩⟩⟩) hd_137 (by decide) rfl (Nat.le_of_ble_eq_true rfl) (Nat.le_of_ble_eq_true rfl)
theorem k_Lw_law_525 : am_Snd gG mt yLw_law 525 (31, 0, 576, 0, 528, []) := sd_icmp_eq 0 576 [] (da dk_Lw_law (k := 389) rfl) (by decide)
theorem k_Lw_law_528 : am_Snd gG mt yLw_law 528 (0, 0, 0, 0, 529, []) := sd_iconst 0 0 0 [] (da dk_Lw_law (k := 390) rfl)
theorem k_Lw_law_529 : am_Snd gG mt yLw_law 529 (72, 0, 0, 0, 530, []) := sd_zret 0 0 0 530 [] (da dk_Lw_law (k := 391) rfl) rfl
theorem k_Lw_law_530 : am_Snd gG mt yLw_law 530 (2, 0, 1, 0, 531, []) := sd_aload_n 0 1 0 [] rfl (da dk_Lw_law (k := 392) rfl)
theorem k_Lw_law_531 : am_Snd gG mt yLw_law 531 (2, 0, 0, 0, 532, []) := sd_aload_n 0 0 0 [] rfl (da dk_Lw_law (k := 393) rfl)
theorem k_Lw_law_532 : am_Snd gG mt yLw_law 532 (1, 0, 3, 0, 533, []) := sd_iload_n 0 3 0 [] rfl (da dk_Lw_law (k := 394) rfl)
theorem k_Lw_law_533 : am_Snd gG mt yLw_law 533 (0, 1, 0, 0, 534, []) := sd_iconst 1 0 0 [] (da dk_Lw_law (k := 395) rfl)
theorem k_Lw_law_534 : am_Snd gG mt yLw_law 534 (6, 0, 0, 0, 535, []) := sd_iadd 0 0 0 [] (da dk_Lw_law (k := 396) rfl)
theorem k_Lw_law_535 : am_Snd gG mt yLw_law 535 (42, 0, 99, 0, 536, []) := sd_sld 0 99 0 [] (da dk_Lw_law (k := 397) rfl) rfl
theorem k_Lw_law_536 : am_Snd gG mt yLw_law 536 (2, 0, 0, 0, 537, []) := sd_aload_n 0 0 0 [] rfl (da dk_Lw_law (k := 398) rfl)
theorem k_Lw_law_537 : am_Snd gG mt yLw_law 537 (1, 0, 3, 0, 538, []) := sd_iload_n 0 3 0 [] rfl (da dk_Lw_law (k := 399) rfl)
theorem k_Lw_law_538 : am_Snd gG mt yLw_law 538 (0, 2, 0, 0, 539, []) := sd_iconst 2 0 0 [] (da dk_Lw_law (k := 400) rfl)
theorem k_Lw_law_539 : am_Snd gG mt yLw_law 539 (6, 0, 0, 0, 540, []) := sd_iadd 0 0 0 [] (da dk_Lw_law (k := 401) rfl)
theorem k_Lw_law_540 : am_Snd gG mt yLw_law 540 (42, 0, 99, 0, 541, []) := sd_sld 0 99 0 [] (da dk_Lw_law (k := 402) rfl) rfl
theorem k_Lw_law_541 : am_Snd gG mt yLw_law 541 (61, 1, 90, 3, 544, [(0, 0)]) := sd_callV 1 90 3 0 mt_90 (da dk_Lw_law (k := 403) rfl) gG_ok rfl w_634 (List.forall_mem_cons.2 ⟨w_631, List.forall_mem_cons.2 ⟨w_632, List.forall_mem_cons.2 ⟨w_633, List.forall_mem_cons.2 ⟨w_47, fun _ h => absurd h List.not_mem_nil⟩⟩⟩⟩) hd_90 (by decide) rfl (Nat.le_of_ble_eq_true rfl) (Nat.le_of_ble_eq_true rfl)
theorem k_Lw_law_544 : am_Snd gG mt yLw_law 544 (2, 0, 2, 0, 545, []) := sd_aload_n 0 2 0 [] rfl (da dk_Lw_law (k := 404) rfl)
theorem k_Lw_law_545 : am_Snd gG mt yLw_law 545 (2, 0, 0, 0, 546, []) := sd_aload_n 0 0 0 [] rfl (da dk_Lw_law (k := 405) rfl)
theorem k_Lw_law_546 : am_Snd gG mt yLw_law 546 (1, 0, 3, 0, 547, []) := sd_iload_n 0 3 0 [] rfl (da dk_Lw_law (k := 406) rfl)
theorem k_Lw_law_547 : am_Snd gG mt yLw_law 547 (0, 1, 0, 0, 548, []) := sd_iconst 1 0 0 [] (da dk_Lw_law (k := 407) rfl)
theorem k_Lw_law_548 : am_Snd gG mt yLw_law 548 (6, 0, 0, 0, 549, []) := sd_iadd 0 0 0 [] (da dk_Lw_law (k := 408) rfl)
theorem k_Lw_law_549 : am_Snd gG mt yLw_law 549 (42, 0, 99, 0, 550, []) := sd_sld 0 99 0 [] (da dk_Lw_law (k := 409) rfl) rfl
theorem k_Lw_law_550 : am_Snd gG mt yLw_law 550 (2, 0, 0, 0, 551, []) := sd_aload_n 0 0 0 [] rfl (da dk_Lw_law (k := 410) rfl)
theorem k_Lw_law_551 : am_Snd gG mt yLw_law 551 (1, 0, 3, 0, 552, []) := sd_iload_n 0 3 0 [] rfl (da dk_Lw_law (k := 411) rfl)
theorem k_Lw_law_552 : am_Snd gG mt yLw_law 552 (0, 2, 0, 0, 553, []) := sd_iconst 2 0 0 [] (da dk_Lw_law (k := 412) rfl)
theorem k_Lw_law_553 : am_Snd gG mt yLw_law 553 (6, 0, 0, 0, 554, []) := sd_iadd 0 0 0 [] (da dk_Lw_law (k := 413) rfl)
theorem k_Lw_law_554 : am_Snd gG mt yLw_law 554 (42, 0, 99, 0, 555, []) := sd_sld 0 99 0 [] (da dk_Lw_law (k := 414) rfl) rfl
theorem k_Lw_law_555 : am_Snd gG mt yLw_law 555 (61, 2, 138, 3, 558, [(0, 7)]) := sd_callV 2 138 3 7 mt_138 (da dk_Lw_law (k := 415) rfl) gG_ok rfl w_928 (List.forall_mem_cons.2 ⟨w_925, List.forall_mem_cons.2 ⟨w_926, List.forall_mem_cons.2 ⟨w_927, List.forall_mem_cons.2 ⟨w_53, fun _ h => absurd h List.not_mem_nil⟩⟩⟩⟩) hd_138 (by decide) rfl (Nat.le_of_ble_eq_true rfl) (Nat.le_of_ble_eq_true rfl)
theorem k_Lw_law_558 : am_Snd gG mt yLw_law 558 (31, 0, 576, 0, 561, []) := sd_icmp_eq 0 576 [] (da dk_Lw_law (k := 416) rfl) (by decide)
theorem k_Lw_law_561 : am_Snd gG mt yLw_law 561 (0, 0, 0, 0, 562, []) := sd_iconst 0 0 0 [] (da dk_Lw_law (k := 417) rfl)
theorem k_Lw_law_562 : am_Snd gG mt yLw_law 562 (72, 0, 0, 0, 563, []) := sd_zret 0 0 0 563 [] (da dk_Lw_law (k := 418) rfl) rfl
theorem k_Lw_law_563 : am_Snd gG mt yLw_law 563 (2, 0, 1, 0, 564, []) := sd_aload_n 0 1 0 [] rfl (da dk_Lw_law (k := 419) rfl)
theorem k_Lw_law_564 : am_Snd gG mt yLw_law 564 (61, 0, 92, 1, 567, [(0, 0)]) := sd_callV 0 92 1 0 mt_92 (da dk_Lw_law (k := 420) rfl) gG_ok rfl w_642 (List.forall_mem_cons.2 ⟨w_639, List.forall_mem_cons.2 ⟨w_640, List.forall_mem_cons.2 ⟨w_641, List.forall_mem_cons.2 ⟨w_47, fun _ h => absurd h List.not_mem_nil⟩⟩⟩⟩) hd_92 (by decide) rfl (Nat.le_of_ble_eq_true rfl) (Nat.le_of_ble_eq_true rfl)
theorem k_Lw_law_567 : am_Snd gG mt yLw_law 567 (2, 0, 2, 0, 568, []) := sd_aload_n 0 2 0 [] rfl (da dk_Lw_law (k := 421) rfl)
theorem k_Lw_law_568 : am_Snd gG mt yLw_law 568 (61, 0, 139, 1, 571, [(0, 7)]) := sd_callV 0 139 1 7 mt_139 (da dk_Lw_law (k := 422) rfl) gG_ok rfl w_932 (List.forall_mem_cons.2 ⟨w_929, List.forall_mem_cons.2 ⟨w_930, List.forall_mem_cons.2 ⟨w_931, List.forall_mem_cons.2 ⟨w_53, fun _ h => absurd h List.not_mem_nil⟩⟩⟩⟩) hd_139 (by decide) rfl (Nat.le_of_ble_eq_true rfl) (Nat.le_of_ble_eq_true rfl)
theorem k_Lw_law_571 : am_Snd gG mt yLw_law 571 (31, 0, 576, 0, 574, []) := sd_icmp_eq 0 576 [] (da dk_Lw_law (k := 423) rfl) (by decide)
theorem k_Lw_law_574 : am_Snd gG mt yLw_law 574 (0, 0, 0, 0, 575, []) := sd_iconst 0 0 0 [] (da dk_Lw_law (k := 424) rfl)
theorem k_Lw_law_575 : am_Snd gG mt yLw_law 575 (72, 0, 0, 0, 576, []) := sd_zret 0 0 0 576 [] (da dk_Lw_law (k := 425) rfl) rfl
theorem k_Lw_law_576 : am_Snd gG mt yLw_law 576 (5, 8, 3, 0, 579, []) := sd_iinc 8 3 0 [] (da dk_Lw_law (k := 426) rfl)
theorem k_Lw_law_579 : am_Snd gG mt yLw_law 579 (26, 0, 18, 0, 582, []) := sd_goto 0 18 0 582 [] (da dk_Lw_law (k := 427) rfl) (by decide)
theorem k_Lw_law_582 : am_Snd gG mt yLw_law 582 (0, 1, 0, 0, 583, []) := sd_iconst 1 0 0 [] (da dk_Lw_law (k := 428) rfl)
theorem k_Lw_law_583 : am_Snd gG mt yLw_law 583 (72, 0, 0, 0, 584, []) := sd_zret 0 0 0 584 [] (da dk_Lw_law (k := 429) rfl) rfl
set_option maxRecDepth 20000 in
theorem ks_Lw_law : ∀ q ∈ tLw_law, am_Snd gG mt yLw_law q.1 q.2 := List.forall_mem_cons.2 ⟨k_Lw_law_0, List.forall_mem_cons.2 ⟨k_Lw_law_3, List.forall_mem_cons.2 ⟨k_Lw_law_4, List.forall_mem_cons.2 ⟨k_Lw_law_7, List.forall_mem_cons.2 ⟨k_Lw_law_8, List.forall_mem_cons.2 ⟨k_Lw_law_11, List.forall_mem_cons.2 ⟨k_Lw_law_12, List.forall_mem_cons.2 ⟨k_Lw_law_15, List.forall_mem_cons.2 ⟨k_Lw_law_16, List.forall_mem_cons.2 ⟨k_Lw_law_17, List.forall_mem_cons.2 ⟨k_Lw_law_18, List.forall_mem_cons.2 ⟨k_Lw_law_19, List.forall_mem_cons.2 ⟨k_Lw_law_20, List.forall_mem_cons.2 ⟨k_Lw_law_21, List.forall_mem_cons.2 ⟨k_Lw_law_23, List.forall_mem_cons.2 ⟨k_Lw_law_24, List.forall_mem_cons.2 ⟨k_Lw_law_27, List.forall_mem_cons.2 ⟨k_Lw_law_28, List.forall_mem_cons.2 ⟨k_Lw_law_29, List.forall_mem_cons.2 ⟨k_Lw_law_30, List.forall_mem_cons.2 ⟨k_Lw_law_32, List.forall_mem_cons.2 ⟨k_Lw_law_33, List.forall_mem_cons.2 ⟨k_Lw_law_96, List.forall_mem_cons.2 ⟨k_Lw_law_97, List.forall_mem_cons.2 ⟨k_Lw_law_98, List.forall_mem_cons.2 ⟨k_Lw_law_99, List.forall_mem_cons.2 ⟨k_Lw_law_100, List.forall_mem_cons.2 ⟨k_Lw_law_101, List.forall_mem_cons.2 ⟨k_Lw_law_102, List.forall_mem_cons.2 ⟨k_Lw_law_103, List.forall_mem_cons.2 ⟨k_Lw_law_104, List.forall_mem_cons.2 ⟨k_Lw_law_105, List.forall_mem_cons.2 ⟨k_Lw_law_106, List.forall_mem_cons.2 ⟨k_Lw_law_107, List.forall_mem_cons.2 ⟨k_Lw_law_108, List.forall_mem_cons.2 ⟨k_Lw_law_109, List.forall_mem_cons.2 ⟨k_Lw_law_110, List.forall_mem_cons.2 ⟨k_Lw_law_111, List.forall_mem_cons.2 ⟨k_Lw_law_112, List.forall_mem_cons.2 ⟨k_Lw_law_113, List.forall_mem_cons.2 ⟨k_Lw_law_114, List.forall_mem_cons.2 ⟨k_Lw_law_115, List.forall_mem_cons.2 ⟨k_Lw_law_116, List.forall_mem_cons.2 ⟨k_Lw_law_117, List.forall_mem_cons.2 ⟨k_Lw_law_118, List.forall_mem_cons.2 ⟨k_Lw_law_119, List.forall_mem_cons.2 ⟨k_Lw_law_120, List.forall_mem_cons.2 ⟨k_Lw_law_121, List.forall_mem_cons.2 ⟨k_Lw_law_122, List.forall_mem_cons.2 ⟨k_Lw_law_125, List.forall_mem_cons.2 ⟨k_Lw_law_126, List.forall_mem_cons.2 ⟨k_Lw_law_127, List.forall_mem_cons.2 ⟨k_Lw_law_128, List.forall_mem_cons.2 ⟨k_Lw_law_129, List.forall_mem_cons.2 ⟨k_Lw_law_130, List.forall_mem_cons.2 ⟨k_Lw_law_131, List.forall_mem_cons.2 ⟨k_Lw_law_132, List.forall_mem_cons.2 ⟨k_Lw_law_133, List.forall_mem_cons.2 ⟨k_Lw_law_134, List.forall_mem_cons.2 ⟨k_Lw_law_135, List.forall_mem_cons.2 ⟨k_Lw_law_136, List.forall_mem_cons.2 ⟨k_Lw_law_137, List.forall_mem_cons.2 ⟨k_Lw_law_138, List.forall_mem_cons.2 ⟨k_Lw_law_139, List.forall_mem_cons.2 ⟨k_Lw_law_140, List.forall_mem_cons.2 ⟨k_Lw_law_141, List.forall_mem_cons.2 ⟨k_Lw_law_142, List.forall_mem_cons.2 ⟨k_Lw_law_143, List.forall_mem_cons.2 ⟨k_Lw_law_144, List.forall_mem_cons.2 ⟨k_Lw_law_145, List.forall_mem_cons.2 ⟨k_Lw_law_146, List.forall_mem_cons.2 ⟨k_Lw_law_147, List.forall_mem_cons.2 ⟨k_Lw_law_148, List.forall_mem_cons.2 ⟨k_Lw_law_149, List.forall_mem_cons.2 ⟨k_Lw_law_150, List.forall_mem_cons.2 ⟨k_Lw_law_151, List.forall_mem_cons.2 ⟨k_Lw_law_154, List.forall_mem_cons.2 ⟨k_Lw_law_157, List.forall_mem_cons.2 ⟨k_Lw_law_158, List.forall_mem_cons.2 ⟨k_Lw_law_159, List.forall_mem_cons.2 ⟨k_Lw_law_160, List.forall_mem_cons.2 ⟨k_Lw_law_161, List.forall_mem_cons.2 ⟨k_Lw_law_162, List.forall_mem_cons.2 ⟨k_Lw_law_163, List.forall_mem_cons.2 ⟨k_Lw_law_164, List.forall_mem_cons.2 ⟨k_Lw_law_165, List.forall_mem_cons.2 ⟨k_Lw_law_166, List.forall_mem_cons.2 ⟨k_Lw_law_167, List.forall_mem_cons.2 ⟨k_Lw_law_168, List.forall_mem_cons.2 ⟨k_Lw_law_169, List.forall_mem_cons.2 ⟨k_Lw_law_170, List.forall_mem_cons.2 ⟨k_Lw_law_171, List.forall_mem_cons.2 ⟨k_Lw_law_172, List.forall_mem_cons.2 ⟨k_Lw_law_173, List.forall_mem_cons.2 ⟨k_Lw_law_174, List.forall_mem_cons.2 ⟨k_Lw_law_175, List.forall_mem_cons.2 ⟨k_Lw_law_176, List.forall_mem_cons.2 ⟨k_Lw_law_177, List.forall_mem_cons.2 ⟨k_Lw_law_178, List.forall_mem_cons.2 ⟨k_Lw_law_179, List.forall_mem_cons.2 ⟨k_Lw_law_180, List.forall_mem_cons.2 ⟨k_Lw_law_181, List.forall_mem_cons.2 ⟨k_Lw_law_182, List.forall_mem_cons.2 ⟨k_Lw_law_183, List.forall_mem_cons.2 ⟨k_Lw_law_184, List.forall_mem_cons.2 ⟨k_Lw_law_185, List.forall_mem_cons.2 ⟨k_Lw_law_186, List.forall_mem_cons.2 ⟨k_Lw_law_187, List.forall_mem_cons.2 ⟨k_Lw_law_189, List.forall_mem_cons.2 ⟨k_Lw_law_190, List.forall_mem_cons.2 ⟨k_Lw_law_191, List.forall_mem_cons.2 ⟨k_Lw_law_192, List.forall_mem_cons.2 ⟨k_Lw_law_193, List.forall_mem_cons.2 ⟨k_Lw_law_195, List.forall_mem_cons.2 ⟨k_Lw_law_196, List.forall_mem_cons.2 ⟨k_Lw_law_197, List.forall_mem_cons.2 ⟨k_Lw_law_200, List.forall_mem_cons.2 ⟨k_Lw_law_201, List.forall_mem_cons.2 ⟨k_Lw_law_202, List.forall_mem_cons.2 ⟨k_Lw_law_203, List.forall_mem_cons.2 ⟨k_Lw_law_204, List.forall_mem_cons.2 ⟨k_Lw_law_205, List.forall_mem_cons.2 ⟨k_Lw_law_206, List.forall_mem_cons.2 ⟨k_Lw_law_207, List.forall_mem_cons.2 ⟨k_Lw_law_208, List.forall_mem_cons.2 ⟨k_Lw_law_209, List.forall_mem_cons.2 ⟨k_Lw_law_210, List.forall_mem_cons.2 ⟨k_Lw_law_211, List.forall_mem_cons.2 ⟨k_Lw_law_212, List.forall_mem_cons.2 ⟨k_Lw_law_213, List.forall_mem_cons.2 ⟨k_Lw_law_214, List.forall_mem_cons.2 ⟨k_Lw_law_215, List.forall_mem_cons.2 ⟨k_Lw_law_216, List.forall_mem_cons.2 ⟨k_Lw_law_217, List.forall_mem_cons.2 ⟨k_Lw_law_218, List.forall_mem_cons.2 ⟨k_Lw_law_219, List.forall_mem_cons.2 ⟨k_Lw_law_220, List.forall_mem_cons.2 ⟨k_Lw_law_221, List.forall_mem_cons.2 ⟨k_Lw_law_222, List.forall_mem_cons.2 ⟨k_Lw_law_223, List.forall_mem_cons.2 ⟨k_Lw_law_224, List.forall_mem_cons.2 ⟨k_Lw_law_225, List.forall_mem_cons.2 ⟨k_Lw_law_226, List.forall_mem_cons.2 ⟨k_Lw_law_227, List.forall_mem_cons.2 ⟨k_Lw_law_228, List.forall_mem_cons.2 ⟨k_Lw_law_230, List.forall_mem_cons.2 ⟨k_Lw_law_231, List.forall_mem_cons.2 ⟨k_Lw_law_232, List.forall_mem_cons.2 ⟨k_Lw_law_233, List.forall_mem_cons.2 ⟨k_Lw_law_234, List.forall_mem_cons.2 ⟨k_Lw_law_236, List.forall_mem_cons.2 ⟨k_Lw_law_237, List.forall_mem_cons.2 ⟨k_Lw_law_238, List.forall_mem_cons.2 ⟨k_Lw_law_241, List.forall_mem_cons.2 ⟨k_Lw_law_244, List.forall_mem_cons.2 ⟨k_Lw_law_245, List.forall_mem_cons.2 ⟨k_Lw_law_246, List.forall_mem_cons.2 ⟨k_Lw_law_247, List.forall_mem_cons.2 ⟨k_Lw_law_248, List.forall_mem_cons.2 ⟨k_Lw_law_249, List.forall_mem_cons.2 ⟨k_Lw_law_250, List.forall_mem_cons.2 ⟨k_Lw_law_251, List.forall_mem_cons.2 ⟨k_Lw_law_252, List.forall_mem_cons.2 ⟨k_Lw_law_253, List.forall_mem_cons.2 ⟨k_Lw_law_254, List.forall_mem_cons.2 ⟨k_Lw_law_255, List.forall_mem_cons.2 ⟨k_Lw_law_256, List.forall_mem_cons.2 ⟨k_Lw_law_257, List.forall_mem_cons.2 ⟨k_Lw_law_260, List.forall_mem_cons.2 ⟨k_Lw_law_261, List.forall_mem_cons.2 ⟨k_Lw_law_262, List.forall_mem_cons.2 ⟨k_Lw_law_263, List.forall_mem_cons.2 ⟨k_Lw_law_264, List.forall_mem_cons.2 ⟨k_Lw_law_265, List.forall_mem_cons.2 ⟨k_Lw_law_266, List.forall_mem_cons.2 ⟨k_Lw_law_267, List.forall_mem_cons.2 ⟨k_Lw_law_268, List.forall_mem_cons.2 ⟨k_Lw_law_269, List.forall_mem_cons.2 ⟨k_Lw_law_270, List.forall_mem_cons.2 ⟨k_Lw_law_271, List.forall_mem_cons.2 ⟨k_Lw_law_274, List.forall_mem_cons.2 ⟨k_Lw_law_277, List.forall_mem_cons.2 ⟨k_Lw_law_278, List.forall_mem_cons.2 ⟨k_Lw_law_279, List.forall_mem_cons.2 ⟨k_Lw_law_280, List.forall_mem_cons.2 ⟨k_Lw_law_281, List.forall_mem_cons.2 ⟨k_Lw_law_282, List.forall_mem_cons.2 ⟨k_Lw_law_283, List.forall_mem_cons.2 ⟨k_Lw_law_284, List.forall_mem_cons.2 ⟨k_Lw_law_285, List.forall_mem_cons.2 ⟨k_Lw_law_286, List.forall_mem_cons.2 ⟨k_Lw_law_287, List.forall_mem_cons.2 ⟨k_Lw_law_288, List.forall_mem_cons.2 ⟨k_Lw_law_289, List.forall_mem_cons.2 ⟨k_Lw_law_290, List.forall_mem_cons.2 ⟨k_Lw_law_293, List.forall_mem_cons.2 ⟨k_Lw_law_294, List.forall_mem_cons.2 ⟨k_Lw_law_295, List.forall_mem_cons.2 ⟨k_Lw_law_296, List.forall_mem_cons.2 ⟨k_Lw_law_297, List.forall_mem_cons.2 ⟨k_Lw_law_298, List.forall_mem_cons.2 ⟨k_Lw_law_299, List.forall_mem_cons.2 ⟨k_Lw_law_300, List.forall_mem_cons.2 ⟨k_Lw_law_301, List.forall_mem_cons.2 ⟨k_Lw_law_302, List.forall_mem_cons.2 ⟨k_Lw_law_303, List.forall_mem_cons.2 ⟨k_Lw_law_304, List.forall_mem_cons.2 ⟨k_Lw_law_307, List.forall_mem_cons.2 ⟨k_Lw_law_310, List.forall_mem_cons.2 ⟨k_Lw_law_311, List.forall_mem_cons.2 ⟨k_Lw_law_312, List.forall_mem_cons.2 ⟨k_Lw_law_313, List.forall_mem_cons.2 ⟨k_Lw_law_314, List.forall_mem_cons.2 ⟨k_Lw_law_315, List.forall_mem_cons.2 ⟨k_Lw_law_316, List.forall_mem_cons.2 ⟨k_Lw_law_317, List.forall_mem_cons.2 ⟨k_Lw_law_318, List.forall_mem_cons.2 ⟨k_Lw_law_319, List.forall_mem_cons.2 ⟨k_Lw_law_320, List.forall_mem_cons.2 ⟨k_Lw_law_321, List.forall_mem_cons.2 ⟨k_Lw_law_322, List.forall_mem_cons.2 ⟨k_Lw_law_323, List.forall_mem_cons.2 ⟨k_Lw_law_324, List.forall_mem_cons.2 ⟨k_Lw_law_325, List.forall_mem_cons.2 ⟨k_Lw_law_326, List.forall_mem_cons.2 ⟨k_Lw_law_327, List.forall_mem_cons.2 ⟨k_Lw_law_328, List.forall_mem_cons.2 ⟨k_Lw_law_331, List.forall_mem_cons.2 ⟨k_Lw_law_332, List.forall_mem_cons.2 ⟨k_Lw_law_333, List.forall_mem_cons.2 ⟨k_Lw_law_334, List.forall_mem_cons.2 ⟨k_Lw_law_335, List.forall_mem_cons.2 ⟨k_Lw_law_336, List.forall_mem_cons.2 ⟨k_Lw_law_337, List.forall_mem_cons.2 ⟨k_Lw_law_338, List.forall_mem_cons.2 ⟨k_Lw_law_339, List.forall_mem_cons.2 ⟨k_Lw_law_340, List.forall_mem_cons.2 ⟨k_Lw_law_341, List.forall_mem_cons.2 ⟨k_Lw_law_342, List.forall_mem_cons.2 ⟨k_Lw_law_343, List.forall_mem_cons.2 ⟨k_Lw_law_344, List.forall_mem_cons.2 ⟨k_Lw_law_345, List.forall_mem_cons.2 ⟨k_Lw_law_346, List.forall_mem_cons.2 ⟨k_Lw_law_347, List.forall_mem_cons.2 ⟨k_Lw_law_350, List.forall_mem_cons.2 ⟨k_Lw_law_353, List.forall_mem_cons.2 ⟨k_Lw_law_354, List.forall_mem_cons.2 ⟨k_Lw_law_355, List.forall_mem_cons.2 ⟨k_Lw_law_356, List.forall_mem_cons.2 ⟨k_Lw_law_357, List.forall_mem_cons.2 ⟨k_Lw_law_358, List.forall_mem_cons.2 ⟨k_Lw_law_359, List.forall_mem_cons.2 ⟨k_Lw_law_360, List.forall_mem_cons.2 ⟨k_Lw_law_361, List.forall_mem_cons.2 ⟨k_Lw_law_362, List.forall_mem_cons.2 ⟨k_Lw_law_363, List.forall_mem_cons.2 ⟨k_Lw_law_364, List.forall_mem_cons.2 ⟨k_Lw_law_365, List.forall_mem_cons.2 ⟨k_Lw_law_366, List.forall_mem_cons.2 ⟨k_Lw_law_367, List.forall_mem_cons.2 ⟨k_Lw_law_368, List.forall_mem_cons.2 ⟨k_Lw_law_369, List.forall_mem_cons.2 ⟨k_Lw_law_370, List.forall_mem_cons.2 ⟨k_Lw_law_371, List.forall_mem_cons.2 ⟨k_Lw_law_374, List.forall_mem_cons.2 ⟨k_Lw_law_375, List.forall_mem_cons.2 ⟨k_Lw_law_376, List.forall_mem_cons.2 ⟨k_Lw_law_377, List.forall_mem_cons.2 ⟨k_Lw_law_378, List.forall_mem_cons.2 ⟨k_Lw_law_379, List.forall_mem_cons.2 ⟨k_Lw_law_380, List.forall_mem_cons.2 ⟨k_Lw_law_381, List.forall_mem_cons.2 ⟨k_Lw_law_382, List.forall_mem_cons.2 ⟨k_Lw_law_383, List.forall_mem_cons.2 ⟨k_Lw_law_384, List.forall_mem_cons.2 ⟨k_Lw_law_385, List.forall_mem_cons.2 ⟨k_Lw_law_386, List.forall_mem_cons.2 ⟨k_Lw_law_387, List.forall_mem_cons.2 ⟨k_Lw_law_388, List.forall_mem_cons.2 ⟨k_Lw_law_389, List.forall_mem_cons.2 ⟨k_Lw_law_390, List.forall_mem_cons.2 ⟨k_Lw_law_393, List.forall_mem_cons.2 ⟨k_Lw_law_396, List.forall_mem_cons.2 ⟨k_Lw_law_397, List.forall_mem_cons.2 ⟨k_Lw_law_398, List.forall_mem_cons.2 ⟨k_Lw_law_399, List.forall_mem_cons.2 ⟨k_Lw_law_400, List.forall_mem_cons.2 ⟨k_Lw_law_401, List.forall_mem_cons.2 ⟨k_Lw_law_402, List.forall_mem_cons.2 ⟨k_Lw_law_403, List.forall_mem_cons.2 ⟨k_Lw_law_404, List.forall_mem_cons.2 ⟨k_Lw_law_405, List.forall_mem_cons.2 ⟨k_Lw_law_406, List.forall_mem_cons.2 ⟨k_Lw_law_407, List.forall_mem_cons.2 ⟨k_Lw_law_408, List.forall_mem_cons.2 ⟨k_Lw_law_409, List.forall_mem_cons.2 ⟨k_Lw_law_412, List.forall_mem_cons.2 ⟨k_Lw_law_413, List.forall_mem_cons.2 ⟨k_Lw_law_414, List.forall_mem_cons.2 ⟨k_Lw_law_415, List.forall_mem_cons.2 ⟨k_Lw_law_416, List.forall_mem_cons.2 ⟨k_Lw_law_417, List.forall_mem_cons.2 ⟨k_Lw_law_418, List.forall_mem_cons.2 ⟨k_Lw_law_419, List.forall_mem_cons.2 ⟨k_Lw_law_420, List.forall_mem_cons.2 ⟨k_Lw_law_421, List.forall_mem_cons.2 ⟨k_Lw_law_422, List.forall_mem_cons.2 ⟨k_Lw_law_423, List.forall_mem_cons.2 ⟨k_Lw_law_426, List.forall_mem_cons.2 ⟨k_Lw_law_429, List.forall_mem_cons.2 ⟨k_Lw_law_430, List.forall_mem_cons.2 ⟨k_Lw_law_431, List.forall_mem_cons.2 ⟨k_Lw_law_432, List.forall_mem_cons.2 ⟨k_Lw_law_433, List.forall_mem_cons.2 ⟨k_Lw_law_434, List.forall_mem_cons.2 ⟨k_Lw_law_435, List.forall_mem_cons.2 ⟨k_Lw_law_436, List.forall_mem_cons.2 ⟨k_Lw_law_437, List.forall_mem_cons.2 ⟨k_Lw_law_438, List.forall_mem_cons.2 ⟨k_Lw_law_439, List.forall_mem_cons.2 ⟨k_Lw_law_440, List.forall_mem_cons.2 ⟨k_Lw_law_441, List.forall_mem_cons.2 ⟨k_Lw_law_442, List.forall_mem_cons.2 ⟨k_Lw_law_445, List.forall_mem_cons.2 ⟨k_Lw_law_446, List.forall_mem_cons.2 ⟨k_Lw_law_447, List.forall_mem_cons.2 ⟨k_Lw_law_448, List.forall_mem_cons.2 ⟨k_Lw_law_449, List.forall_mem_cons.2 ⟨k_Lw_law_450, List.forall_mem_cons.2 ⟨k_Lw_law_451, List.forall_mem_cons.2 ⟨k_Lw_law_452, List.forall_mem_cons.2 ⟨k_Lw_law_453, List.forall_mem_cons.2 ⟨k_Lw_law_454, List.forall_mem_cons.2 ⟨k_Lw_law_455, List.forall_mem_cons.2 ⟨k_Lw_law_456, List.forall_mem_cons.2 ⟨k_Lw_law_459, List.forall_mem_cons.2 ⟨k_Lw_law_462, List.forall_mem_cons.2 ⟨k_Lw_law_463, List.forall_mem_cons.2 ⟨k_Lw_law_464, List.forall_mem_cons.2 ⟨k_Lw_law_465, List.forall_mem_cons.2 ⟨k_Lw_law_466, List.forall_mem_cons.2 ⟨k_Lw_law_467, List.forall_mem_cons.2 ⟨k_Lw_law_468, List.forall_mem_cons.2 ⟨k_Lw_law_469, List.forall_mem_cons.2 ⟨k_Lw_law_470, List.forall_mem_cons.2 ⟨k_Lw_law_471, List.forall_mem_cons.2 ⟨k_Lw_law_472, List.forall_mem_cons.2 ⟨k_Lw_law_473, List.forall_mem_cons.2 ⟨k_Lw_law_474, List.forall_mem_cons.2 ⟨k_Lw_law_475, List.forall_mem_cons.2 ⟨k_Lw_law_478, List.forall_mem_cons.2 ⟨k_Lw_law_479, List.forall_mem_cons.2 ⟨k_Lw_law_480, List.forall_mem_cons.2 ⟨k_Lw_law_481, List.forall_mem_cons.2 ⟨k_Lw_law_482, List.forall_mem_cons.2 ⟨k_Lw_law_483, List.forall_mem_cons.2 ⟨k_Lw_law_484, List.forall_mem_cons.2 ⟨k_Lw_law_485, List.forall_mem_cons.2 ⟨k_Lw_law_486, List.forall_mem_cons.2 ⟨k_Lw_law_487, List.forall_mem_cons.2 ⟨k_Lw_law_488, List.forall_mem_cons.2 ⟨k_Lw_law_489, List.forall_mem_cons.2 ⟨k_Lw_law_492, List.forall_mem_cons.2 ⟨k_Lw_law_495, List.forall_mem_cons.2 ⟨k_Lw_law_496, List.forall_mem_cons.2 ⟨k_Lw_law_497, List.forall_mem_cons.2 ⟨k_Lw_law_498, List.forall_mem_cons.2 ⟨k_Lw_law_499, List.forall_mem_cons.2 ⟨k_Lw_law_500, List.forall_mem_cons.2 ⟨k_Lw_law_501, List.forall_mem_cons.2 ⟨k_Lw_law_502, List.forall_mem_cons.2 ⟨k_Lw_law_503, List.forall_mem_cons.2 ⟨k_Lw_law_504, List.forall_mem_cons.2 ⟨k_Lw_law_505, List.forall_mem_cons.2 ⟨k_Lw_law_506, List.forall_mem_cons.2 ⟨k_Lw_law_507, List.forall_mem_cons.2 ⟨k_Lw_law_508, List.forall_mem_cons.2 ⟨k_Lw_law_511, List.forall_mem_cons.2 ⟨k_Lw_law_512, List.forall_mem_cons.2 ⟨k_Lw_law_513, List.forall_mem_cons.2 ⟨k_Lw_law_514, List.forall_mem_cons.2 ⟨k_Lw_law_515, List.forall_mem_cons.2 ⟨k_Lw_law_516, List.forall_mem_cons.2 ⟨k_Lw_law_517, List.forall_mem_cons.2 ⟨k_Lw_law_518, List.forall_mem_cons.2 ⟨k_Lw_law_519, List.forall_mem_cons.2 ⟨k_Lw_law_520, List.forall_mem_cons.2 ⟨k_Lw_law_521, List.forall_mem_cons.2 ⟨k_Lw_law_522, List.forall_mem_cons.2 ⟨k_Lw_law_525, List.forall_mem_cons.2 ⟨k_Lw_law_528, List.forall_mem_cons.2 ⟨k_Lw_law_529, List.forall_mem_cons.2 ⟨k_Lw_law_530, List.forall_mem_cons.2 ⟨k_Lw_law_531, List.forall_mem_cons.2 ⟨k_Lw_law_532, List.forall_mem_cons.2 ⟨k_Lw_law_533, List.forall_mem_cons.2 ⟨k_Lw_law_534, List.forall_mem_cons.2 ⟨k_Lw_law_535, List.forall_mem_cons.2 ⟨k_Lw_law_536, List.forall_mem_cons.2 ⟨k_Lw_law_537, List.forall_mem_cons.2 ⟨k_Lw_law_538, List.forall_mem_cons.2 ⟨k_Lw_law_539, List.forall_mem_cons.2 ⟨k_Lw_law_540, List.forall_mem_cons.2 ⟨k_Lw_law_541, List.forall_mem_cons.2 ⟨k_Lw_law_544, List.forall_mem_cons.2 ⟨k_Lw_law_545, List.forall_mem_cons.2 ⟨k_Lw_law_546, List.forall_mem_cons.2 ⟨k_Lw_law_547, List.forall_mem_cons.2 ⟨k_Lw_law_548, List.forall_mem_cons.2 ⟨k_Lw_law_549, List.forall_mem_cons.2 ⟨k_Lw_law_550, List.forall_mem_cons.2 ⟨k_Lw_law_551, List.forall_mem_cons.2 ⟨k_Lw_law_552, List.forall_mem_cons.2 ⟨k_Lw_law_553, List.forall_mem_cons.2 ⟨k_Lw_law_554, List.forall_mem_cons.2 ⟨k_Lw_law_555, List.forall_mem_cons.2 ⟨k_Lw_law_558, List.forall_mem_cons.2 ⟨k_Lw_law_561, List.forall_mem_cons.2 ⟨k_Lw_law_562, List.forall_mem_cons.2 ⟨k_Lw_law_563, List.forall_mem_cons.2 ⟨k_Lw_law_564, List.forall_mem_cons.2 ⟨k_Lw_law_567, List.forall_mem_cons.2 ⟨k_Lw_law_568, List.forall_mem_cons.2 ⟨k_Lw_law_571, List.forall_mem_cons.2 ⟨k_Lw_law_574, List.forall_mem_cons.2 ⟨k_Lw_law_575, List.forall_mem_cons.2 ⟨k_Lw_law_576, List.forall_mem_cons.2 ⟨k_Lw_law_579, List.forall_mem_cons.2 ⟨k_Lw_law_582, List.forall_mem_cons.2 ⟨k_Lw_law_583, fun _ h => absurd h List.not_mem_nil⟩⟩⟩⟩⟩⟩⟩⟩⟩⟩⟩⟩⟩⟩⟩⟩⟩⟩⟩⟩⟩⟩⟩⟩⟩⟩⟩⟩⟩⟩⟩⟩⟩⟩⟩⟩⟩⟩⟩⟩⟩⟩⟩⟩⟩⟩⟩⟩⟩⟩⟩⟩⟩⟩⟩⟩⟩⟩⟩⟩⟩⟩⟩⟩⟩⟩⟩⟩⟩⟩⟩⟩⟩⟩⟩⟩⟩⟩⟩⟩⟩⟩⟩⟩⟩⟩⟩⟩⟩⟩⟩⟩⟩⟩⟩⟩⟩⟩⟩⟩⟩⟩⟩⟩⟩⟩⟩⟩⟩⟩⟩⟩⟩⟩⟩⟩⟩⟩⟩⟩⟩⟩⟩⟩⟩⟩⟩⟩⟩⟩⟩⟩⟩⟩⟩⟩⟩⟩⟩⟩⟩⟩⟩⟩⟩⟩⟩⟩⟩⟩⟩⟩⟩⟩⟩⟩⟩⟩⟩⟩⟩⟩⟩⟩⟩⟩⟩⟩⟩⟩⟩⟩⟩⟩⟩⟩⟩⟩⟩⟩⟩⟩⟩⟩⟩⟩⟩⟩⟩⟩⟩⟩⟩⟩⟩⟩⟩⟩⟩⟩⟩⟩⟩⟩⟩⟩⟩⟩⟩⟩⟩⟩⟩⟩⟩⟩⟩⟩⟩⟩⟩⟩⟩⟩⟩⟩⟩⟩⟩⟩⟩⟩⟩⟩⟩⟩⟩⟩⟩⟩⟩⟩⟩⟩⟩⟩⟩⟩⟩⟩⟩⟩⟩⟩⟩⟩⟩⟩⟩⟩⟩⟩⟩⟩⟩⟩⟩⟩⟩⟩⟩⟩⟩⟩⟩⟩⟩⟩⟩⟩⟩⟩⟩⟩⟩⟩⟩⟩⟩⟩⟩⟩⟩⟩⟩⟩⟩⟩⟩⟩⟩⟩⟩⟩⟩⟩⟩⟩⟩⟩⟩⟩⟩⟩⟩⟩⟩⟩⟩⟩⟩⟩⟩⟩⟩⟩⟩⟩⟩⟩⟩⟩⟩⟩⟩⟩⟩⟩⟩⟩⟩⟩⟩⟩⟩⟩⟩⟩⟩⟩⟩⟩⟩⟩⟩⟩⟩⟩⟩⟩⟩⟩⟩⟩⟩⟩⟩⟩⟩⟩⟩⟩⟩⟩⟩⟩⟩⟩⟩⟩⟩⟩⟩⟩⟩⟩⟩⟩⟩⟩⟩⟩⟩⟩⟩⟩⟩⟩⟩⟩⟩⟩⟩⟩⟩⟩⟩⟩⟩⟩⟩⟩⟩⟩⟩⟩⟩⟩⟩⟩⟩⟩⟩⟩⟩⟩⟩⟩⟩⟩
