-- written by prog/gen_code.py: each instruction is sound
def dl_Md_mainPlace : List (Nat × Instr × Nat) := [(0, .aload_n 0, 1), (1, .getfield 13, 3), (4, .iload_n 1, 1), (5, .iaload, 1), (6, .iconst 2, 1), (7, .if_icmp .ne 7, 3), (10, .iload_n 1, 1), (11, .goto 8, 3), (14, .aload_n 0, 1), (15, .iload_n 1, 1), (16, .invokevirtual 159, 3), (19, .istore_n 2, 1), (20, .iload_n 2, 1), (21, .ifCond .lt 40, 3), (24, .iconst 0, 1), (25, .istore_n 3, 1), (26, .iload_n 3, 1), (27, .aload_n 0, 1), (28, .getfield 162, 3), (31, .if_icmp .ge 21, 3), (34, .aload_n 0, 1), (35, .getfield 87, 3), (38, .iload_n 3, 1), (39, .iaload, 1), (40, .iload_n 2, 1), (41, .if_icmp .ne 5, 3), (44, .iload_n 3, 1), (45, .ireturn, 1), (46, .iinc 3 1, 3), (49, .goto (-23), 3), (52, .aload_n 0, 1), (53, .iload_n 2, 1), (54, .invokevirtual 159, 3), (57, .istore_n 2, 1), (58, .goto (-38), 3), (61, .sipush 400, 3), (64, .ireturn, 1)]
set_option maxRecDepth 20000 in
theorem dk_Md_mainPlace : (dl_Md_mainPlace.all fun q => decide (decode prog_10_method_21_code q.1 = .ok (q.2.1, q.2.2))) = true := by decide +kernel
theorem k_Md_mainPlace_0 : am_Snd gG mt yMd_mainPlace 0 (2, 0, 0, 0, 1, []) := sd_aload_n 0 0 0 [] rfl (da dk_Md_mainPlace (k := 0) rfl)
theorem k_Md_mainPlace_1 : am_Snd gG mt yMd_mainPlace 1 (40, 0, 7, 1, 4, []) := sd_getf 0 7 1 [] (da dk_Md_mainPlace (k := 1) rfl) rfl (by decide) hin_7 w_651
theorem k_Md_mainPlace_4 : am_Snd gG mt yMd_mainPlace 4 (1, 0, 1, 0, 5, []) := sd_iload_n 0 1 0 [] rfl (da dk_Md_mainPlace (k := 2) rfl)
theorem k_Md_mainPlace_5 : am_Snd gG mt yMd_mainPlace 5 (42, 0, 0, 0, 6, []) := sd_iald 0 0 0 [] (da dk_Md_mainPlace (k := 3) rfl) rfl rfl
theorem k_Md_mainPlace_6 : am_Snd gG mt yMd_mainPlace 6 (0, 2, 0, 0, 7, []) := sd_iconst 2 0 0 [] (da dk_Md_mainPlace (k := 4) rfl)
theorem k_Md_mainPlace_7 : am_Snd gG mt yMd_mainPlace 7 (31, 0, 14, 1, 10, []) := sd_icmp_ne 0 14 [] (da dk_Md_mainPlace (k := 5) rfl) (by decide)
theorem k_Md_mainPlace_10 : am_Snd gG mt yMd_mainPlace 10 (1, 0, 1, 0, 11, []) := sd_iload_n 0 1 0 [] rfl (da dk_Md_mainPlace (k := 6) rfl)
theorem k_Md_mainPlace_11 : am_Snd gG mt yMd_mainPlace 11 (26, 0, 19, 0, 14, []) := sd_goto 0 19 0 14 [] (da dk_Md_mainPlace (k := 7) rfl) (by decide)
theorem k_Md_mainPlace_14 : am_Snd gG mt yMd_mainPlace 14 (2, 0, 0, 0, 15, []) := sd_aload_n 0 0 0 [] rfl (da dk_Md_mainPlace (k := 8) rfl)
theorem k_Md_mainPlace_15 : am_Snd gG mt yMd_mainPlace 15 (1, 0, 1, 0, 16, []) := sd_iload_n 0 1 0 [] rfl (da dk_Md_mainPlace (k := 9) rfl)
theorem k_Md_mainPlace_16 : am_Snd gG mt yMd_mainPlace 16 (61, 3, 102, 2, 19, [(0, 7)]) := sd_callV 3 102 2 7 mt_102 (da dk_Md_mainPlace (k := 10) rfl) gG_ok rfl w_785 (List.forall_mem_cons.2 ⟨w_782, List.forall_mem_cons.2 ⟨w_784, List.forall_mem_cons.2 ⟨w_22, List.forall_mem_cons.2 ⟨w_53, fun _ h => absurd h List.not_mem_nil⟩⟩⟩⟩) hd_102 (by decide) rfl (Nat.le_of_ble_eq_true rfl) (Nat.le_of_ble_eq_true rfl)
theorem k_Md_mainPlace_19 : am_Snd gG mt yMd_mainPlace 19 (3, 0, 2, 0, 20, []) := sd_istore_n 0 2 0 [] rfl (da dk_Md_mainPlace (k := 11) rfl)
theorem k_Md_mainPlace_20 : am_Snd gG mt yMd_mainPlace 20 (1, 0, 2, 0, 21, []) := sd_iload_n 0 2 0 [] rfl (da dk_Md_mainPlace (k := 12) rfl)
theorem k_Md_mainPlace_21 : am_Snd gG mt yMd_mainPlace 21 (30, 0, 61, 2, 24, []) := sd_if_lt 0 61 [] (da dk_Md_mainPlace (k := 13) rfl) (by decide)
theorem k_Md_mainPlace_24 : am_Snd gG mt yMd_mainPlace 24 (0, 0, 0, 0, 25, []) := sd_iconst 0 0 0 [] (da dk_Md_mainPlace (k := 14) rfl)
theorem k_Md_mainPlace_25 : am_Snd gG mt yMd_mainPlace 25 (3, 0, 3, 0, 26, []) := sd_istore_n 0 3 0 [] rfl (da dk_Md_mainPlace (k := 15) rfl)
theorem k_Md_mainPlace_26 : am_Snd gG mt yMd_mainPlace 26 (1, 0, 3, 0, 27, []) := sd_iload_n 0 3 0 [] rfl (da dk_Md_mainPlace (k := 16) rfl)
theorem k_Md_mainPlace_27 : am_Snd gG mt yMd_mainPlace 27 (2, 0, 0, 0, 28, []) := sd_aload_n 0 0 0 [] rfl (da dk_Md_mainPlace (k := 17) rfl)
theorem k_Md_mainPlace_28 : am_Snd gG mt yMd_mainPlace 28 (40, 0, 7, 28, 31, []) := sd_getf 0 7 28 [] (da dk_Md_mainPlace (k := 18) rfl) rfl (by decide) hin_7 w_678
theorem k_Md_mainPlace_31 : am_Snd gG mt yMd_mainPlace 31 (31, 0, 52, 3, 34, []) := sd_icmp_ge 0 52 [] (da dk_Md_mainPlace (k := 19) rfl) (by decide)
theorem k_Md_mainPlace_34 : am_Snd gG mt yMd_mainPlace 34 (2, 0, 0, 0, 35, []) := sd_aload_n 0 0 0 [] rfl (da dk_Md_mainPlace (k := 20) rfl)
theorem k_Md_mainPlace_35 : am_Snd gG mt yMd_mainPlace 35 (40, 0, 7, 27, 38, []) := sd_getf 0 7 27 [] (da dk_Md_mainPlace (k := 21) rfl) rfl (by decide) hin_7 w_677
theorem k_Md_mainPlace_38 : am_Snd gG mt yMd_mainPlace 38 (1, 0, 3, 0, 39, []) := sd_iload_n 0 3 0 [] rfl (da dk_Md_mainPlace (k := 22) rfl)
theorem k_Md_mainPlace_39 : am_Snd gG mt yMd_mainPlace 39 (42, 0, 0, 0, 40, []) := sd_iald 0 0 0 [] (da dk_Md_mainPlace (k := 23) rfl) rfl rfl
theorem k_Md_mainPlace_40 : am_Snd gG mt yMd_mainPlace 40 (1, 0, 2, 0, 41, []) := sd_iload_n 0 2 0 [] rfl (da dk_Md_mainPlace (k := 24) rfl)
theorem k_Md_mainPlace_41 : am_Snd gG mt yMd_mainPlace 41 (31, 0, 46, 1, 44, []) := sd_icmp_ne 0 46 [] (da dk_Md_mainPlace (k := 25) rfl) (by decide)
theorem k_Md_mainPlace_44 : am_Snd gG mt yMd_mainPlace 44 (1, 0, 3, 0, 45, []) := sd_iload_n 0 3 0 [] rfl (da dk_Md_mainPlace (k := 26) rfl)
theorem k_Md_mainPlace_45 : am_Snd gG mt yMd_mainPlace 45 (71, 0, 0, 0, 46, []) := sd_iret 0 0 0 46 [] (da dk_Md_mainPlace (k := 27) rfl) rfl
theorem k_Md_mainPlace_46 : am_Snd gG mt yMd_mainPlace 46 (5, 1, 3, 0, 49, []) := sd_iinc 1 3 0 [] (da dk_Md_mainPlace (k := 28) rfl)
theorem k_Md_mainPlace_49 : am_Snd gG mt yMd_mainPlace 49 (26, 0, 26, 0, 52, []) := sd_goto 0 26 0 52 [] (da dk_Md_mainPlace (k := 29) rfl) (by decide)
theorem k_Md_mainPlace_52 : am_Snd gG mt yMd_mainPlace 52 (2, 0, 0, 0, 53, []) := sd_aload_n 0 0 0 [] rfl (da dk_Md_mainPlace (k := 30) rfl)
theorem k_Md_mainPlace_53 : am_Snd gG mt yMd_mainPlace 53 (1, 0, 2, 0, 54, []) := sd_iload_n 0 2 0 [] rfl (da dk_Md_mainPlace (k := 31) rfl)
theorem k_Md_mainPlace_54 : am_Snd gG mt yMd_mainPlace 54 (61, 3, 102, 2, 57, [(0, 7)]) := sd_callV 3 102 2 7 mt_102 (da dk_Md_mainPlace (k := 32) rfl) gG_ok rfl w_785 (List.forall_mem_cons.2 ⟨w_782, List.forall_mem_cons.2 ⟨w_784, List.forall_mem_cons.2 ⟨w_22, List.forall_mem_cons.2 ⟨w_53, fun _ h => absurd h List.not_mem_nil⟩⟩⟩⟩) hd_102 (by decide) rfl (Nat.le_of_ble_eq_true rfl) (Nat.le_of_ble_eq_true rfl)
theorem k_Md_mainPlace_57 : am_Snd gG mt yMd_mainPlace 57 (3, 0, 2, 0, 58, []) := sd_istore_n 0 2 0 [] rfl (da dk_Md_mainPlace (k := 33) rfl)
theorem k_Md_mainPlace_58 : am_Snd gG mt yMd_mainPlace 58 (26, 0, 20, 0, 61, []) := sd_goto 0 20 0 61 [] (da dk_Md_mainPlace (k := 34) rfl) (by decide)
theorem k_Md_mainPlace_61 : am_Snd gG mt yMd_mainPlace 61 (0, 400, 0, 0, 64, []) := sd_sipush 400 0 0 [] (da dk_Md_mainPlace (k := 35) rfl) (by decide)
theorem k_Md_mainPlace_64 : am_Snd gG mt yMd_mainPlace 64 (71, 0, 0, 0, 65, []) := sd_iret 0 0 0 65 [] (da dk_Md_mainPlace (k := 36) rfl) rfl
set_option maxRecDepth 20000 in
theorem ks_Md_mainPlace : ∀ q ∈ tMd_mainPlace, am_Snd gG mt yMd_mainPlace q.1 q.2 := List.forall_mem_cons.2 ⟨k_Md_mainPlace_0, List.forall_mem_cons.2 ⟨k_Md_mainPlace_1, List.forall_mem_cons.2 ⟨k_Md_mainPlace_4, List.forall_mem_cons.2 ⟨k_Md_mainPlace_5, List.forall_mem_cons.2 ⟨k_Md_mainPlace_6, List.forall_mem_cons.2 ⟨k_Md_mainPlace_7, List.forall_mem_cons.2 ⟨k_Md_mainPlace_10, List.forall_mem_cons.2 ⟨k_Md_mainPlace_11, List.forall_mem_cons.2 ⟨k_Md_mainPlace_14, List.forall_mem_cons.2 ⟨k_Md_mainPlace_15, List.forall_mem_cons.2 ⟨k_Md_mainPlace_16, List.forall_mem_cons.2 ⟨k_Md_mainPlace_19, List.forall_mem_cons.2 ⟨k_Md_mainPlace_20, List.forall_mem_cons.2 ⟨k_Md_mainPlace_21, List.forall_mem_cons.2 ⟨k_Md_mainPlace_24, List.forall_mem_cons.2 ⟨k_Md_mainPlace_25, List.forall_mem_cons.2 ⟨k_Md_mainPlace_26, List.forall_mem_cons.2 ⟨k_Md_mainPlace_27, List.forall_mem_cons.2 ⟨k_Md_mainPlace_28, List.forall_mem_cons.2 ⟨k_Md_mainPlace_31, List.forall_mem_cons.2 ⟨k_Md_mainPlace_34, List.forall_mem_cons.2 ⟨k_Md_mainPlace_35, List.forall_mem_cons.2 ⟨k_Md_mainPlace_38, List.forall_mem_cons.2 ⟨k_Md_mainPlace_39, List.forall_mem_cons.2 ⟨k_Md_mainPlace_40, List.forall_mem_cons.2 ⟨k_Md_mainPlace_41, List.forall_mem_cons.2 ⟨k_Md_mainPlace_44, List.forall_mem_cons.2 ⟨k_Md_mainPlace_45, List.forall_mem_cons.2 ⟨k_Md_mainPlace_46, List.forall_mem_cons.2 ⟨k_Md_mainPlace_49, List.forall_mem_cons.2 ⟨k_Md_mainPlace_52, List.forall_mem_cons.2 ⟨k_Md_mainPlace_53, List.forall_mem_cons.2 ⟨k_Md_mainPlace_54, List.forall_mem_cons.2 ⟨k_Md_mainPlace_57, List.forall_mem_cons.2 ⟨k_Md_mainPlace_58, List.forall_mem_cons.2 ⟨k_Md_mainPlace_61, List.forall_mem_cons.2 ⟨k_Md_mainPlace_64, fun _ h => absurd h List.not_mem_nil⟩⟩⟩⟩⟩⟩⟩⟩⟩⟩⟩⟩⟩⟩⟩⟩⟩⟩⟩⟩⟩⟩⟩⟩⟩⟩⟩⟩⟩⟩⟩⟩⟩⟩⟩⟩⟩
def dl_Md_isGood : List (Nat × Instr × Nat) := [(0, .aload_n 0, 1), (1, .getfield 13, 3), (4, .iload_n 1, 1), (5, .iaload, 1), (6, .ifCond .eq 14, 3), (9, .aload_n 0, 1), (10, .getfield 28, 3), (13, .iload_n 1, 1), (14, .iaload, 1), (15, .ifCond .ne 5, 3), (18, .iconst 0, 1), (19, .ireturn, 1), (20, .iconst 0, 1), (21, .istore_n 2, 1), (22, .iload_n 2, 1), (23, .aload_n 0, 1), (24, .getfield 34, 3), (27, .iload_n 1, 1), (28, .iaload, 1), (29, .if_icmp .ge 30, 3), (32, .aload_n 0, 1), (33, .getfield 45, 3), (36, .aload_n 0, 1), (37, .getfield 31, 3), (40, .bipush 6, 2), (42, .iload_n 1, 1), (43, .imul, 1), (44, .iload_n 2, 1), (45, .iadd, 1), (46, .iaload, 1), (47, .baload, 1), (48, .ifCond .ne 5, 3), (51, .iconst 0, 1), (52, .ireturn, 1), (53, .iinc 2 1, 3), (56, .goto (-34), 3), (59, .aload_n 0, 1), (60, .iload_n 1, 1), (61, .invokevirtual 140, 3), (64, .aload_n 0, 1), (65, .iload_n 1, 1), (66, .aload_n 0, 1), (67, .getfield 93, 3), (70, .iconst 0, 1), (71, .invokevirtual 143, 3), (74, .ifCond .eq 23, 3), (77, .aload_n 0, 1), (78, .iload_n 1, 1), (79, .aload_n 0, 1), (80, .getfield 48, 3), (83, .bipush 23, 2), (85, .iload_n 1, 1), (86, .imul, 1), (87, .invokevirtual 143, 3), (90, .ifCond .eq 7, 3), (93, .iconst 1, 1), (94, .goto 4, 3), (97, .iconst 0, 1), (98, .ireturn, 1)]
set_option maxRecDepth 20000 in
theorem dk_Md_isGood : (dl_Md_isGood.all fun q => decide (decode prog_10_method_25_code q.1 = .ok (q.2.1, q.2.2))) = true := by decide +kernel
theorem k_Md_isGood_0 : am_Snd gG mt yMd_isGood 0 (2, 0, 0, 0, 1, []) := sd_aload_n 0 0 0 [] rfl (da dk_Md_isGood (k := 0) rfl)
theorem k_Md_isGood_1 : am_Snd gG mt yMd_isGood 1 (40, 0, 7, 1, 4, []) := sd_getf 0 7 1 [] (da dk_Md_isGood (k := 1) rfl) rfl (by decide) hin_7 w_651
theorem k_Md_isGood_4 : am_Snd gG mt yMd_isGood 4 (1, 0, 1, 0, 5, []) := sd_iload_n 0 1 0 [] rfl (da dk_Md_isGood (k := 2) rfl)
theorem k_Md_isGood_5 : am_Snd gG mt yMd_isGood 5 (42, 0, 0, 0, 6, []) := sd_iald 0 0 0 [] (da dk_Md_isGood (k := 3) rfl) rfl rfl
theorem k_Md_isGood_6 : am_Snd gG mt yMd_isGood 6 (30, 0, 20, 0, 9, []) := sd_if_eq 0 20 [] (da dk_Md_isGood (k := 4) rfl) (by decide)
theorem k_Md_isGood_9 : am_Snd gG mt yMd_isGood 9 (2, 0, 0, 0, 10, []) := sd_aload_n 0 0 0 [] rfl (da dk_Md_isGood (k := 5) rfl)
theorem k_Md_isGood_10 : am_Snd gG mt yMd_isGood 10 (40, 0, 7, 6, 13, []) := sd_getf 0 7 6 [] (da dk_Md_isGood (k := 6) rfl) rfl (by decide) hin_7 w_656
theorem k_Md_isGood_13 : am_Snd gG mt yMd_isGood 13 (1, 0, 1, 0, 14, []) := sd_iload_n 0 1 0 [] rfl (da dk_Md_isGood (k := 7) rfl)
theorem k_Md_isGood_14 : am_Snd gG mt yMd_isGood 14 (42, 0, 0, 0, 15, []) := sd_iald 0 0 0 [] (da dk_Md_isGood (k := 8) rfl) rfl rfl
theorem k_Md_isGood_15 : am_Snd gG mt yMd_isGood 15 (30, 0, 20, 1, 18, []) := sd_if_ne 0 20 [] (da dk_Md_isGood (k := 9) rfl) (by decide)
theorem k_Md_isGood_18 : am_Snd gG mt yMd_isGood 18 (0, 0, 0, 0, 19, []) := sd_iconst 0 0 0 [] (da dk_Md_isGood (k := 10) rfl)
theorem k_Md_isGood_19 : am_Snd gG mt yMd_isGood 19 (72, 0, 0, 0, 20, []) := sd_zret 0 0 0 20 [] (da dk_Md_isGood (k := 11) rfl) rfl
theorem k_Md_isGood_20 : am_Snd gG mt yMd_isGood 20 (0, 0, 0, 0, 21, []) := sd_iconst 0 0 0 [] (da dk_Md_isGood (k := 12) rfl)
theorem k_Md_isGood_21 : am_Snd gG mt yMd_isGood 21 (3, 0, 2, 0, 22, []) := sd_istore_n 0 2 0 [] rfl (da dk_Md_isGood (k := 13) rfl)
theorem k_Md_isGood_22 : am_Snd gG mt yMd_isGood 22 (1, 0, 2, 0, 23, []) := sd_iload_n 0 2 0 [] rfl (da dk_Md_isGood (k := 14) rfl)
theorem k_Md_isGood_23 : am_Snd gG mt yMd_isGood 23 (2, 0, 0, 0, 24, []) := sd_aload_n 0 0 0 [] rfl (da dk_Md_isGood (k := 15) rfl)
theorem k_Md_isGood_24 : am_Snd gG mt yMd_isGood 24 (40, 0, 7, 8, 27, []) := sd_getf 0 7 8 [] (da dk_Md_isGood (k := 16) rfl) rfl (by decide) hin_7 w_658
theorem k_Md_isGood_27 : am_Snd gG mt yMd_isGood 27 (1, 0, 1, 0, 28, []) := sd_iload_n 0 1 0 [] rfl (da dk_Md_isGood (k := 17) rfl)
theorem k_Md_isGood_28 : am_Snd gG mt yMd_isGood 28 (42, 0, 0, 0, 29, []) := sd_iald 0 0 0 [] (da dk_Md_isGood (k := 18) rfl) rfl rfl
theorem k_Md_isGood_29 : am_Snd gG mt yMd_isGood 29 (31, 0, 59, 3, 32, []) := sd_icmp_ge 0 59 [] (da dk_Md_isGood (k := 19) rfl) (by decide)
theorem k_Md_isGood_32 : am_Snd gG mt yMd_isGood 32 (2, 0, 0, 0, 33, []) := sd_aload_n 0 0 0 [] rfl (da dk_Md_isGood (k := 20) rfl)
theorem k_Md_isGood_33 : am_Snd gG mt yMd_isGood 33 (40, 0, 7, 11, 36, []) := sd_getf 0 7 11 [] (da dk_Md_isGood (k := 21) rfl) rfl (by decide) hin_7 w_661
theorem k_Md_isGood_36 : am_Snd gG mt yMd_isGood 36 (2, 0, 0, 0, 37, []) := sd_aload_n 0 0 0 [] rfl (da dk_Md_isGood (k := 22) rfl)
theorem k_Md_isGood_37 : am_Snd gG mt yMd_isGood 37 (40, 0, 7, 7, 40, []) := sd_getf 0 7 7 [] (da dk_Md_isGood (k := 23) rfl) rfl (by decide) hin_7 w_657
theorem k_Md_isGood_40 : am_Snd gG mt yMd_isGood 40 (0, 6, 0, 0, 42, []) := sd_bipush 6 0 0 [] (da dk_Md_isGood (k := 24) rfl) (by decide)
theorem k_Md_isGood_42 : am_Snd gG mt yMd_isGood 42 (1, 0, 1, 0, 43, []) := sd_iload_n 0 1 0 [] rfl (da dk_Md_isGood (k := 25) rfl)
theorem k_Md_isGood_43 : am_Snd gG mt yMd_isGood 43 (8, 0, 0, 0, 44, []) := sd_imul 0 0 0 [] (da dk_Md_isGood (k := 26) rfl)
theorem k_Md_isGood_44 : am_Snd gG mt yMd_isGood 44 (1, 0, 2, 0, 45, []) := sd_iload_n 0 2 0 [] rfl (da dk_Md_isGood (k := 27) rfl)
theorem k_Md_isGood_45 : am_Snd gG mt yMd_isGood 45 (6, 0, 0, 0, 46, []) := sd_iadd 0 0 0 [] (da dk_Md_isGood (k := 28) rfl)
theorem k_Md_isGood_46 : am_Snd gG mt yMd_isGood 46 (42, 0, 0, 0, 47, []) := sd_iald 0 0 0 [] (da dk_Md_isGood (k := 29) rfl) rfl rfl
theorem k_Md_isGood_47 : am_Snd gG mt yMd_isGood 47 (42, 0, 1, 0, 48, []) := sd_bald 0 1 0 [] (da dk_Md_isGood (k := 30) rfl) rfl rfl
theorem k_Md_isGood_48 : am_Snd gG mt yMd_isGood 48 (30, 0, 53, 1, 51, []) := sd_if_ne 0 53 [] (da dk_Md_isGood (k := 31) rfl) (by decide)
theorem k_Md_isGood_51 : am_Snd gG mt yMd_isGood 51 (0, 0, 0, 0, 52, []) := sd_iconst 0 0 0 [] (da dk_Md_isGood (k := 32) rfl)
theorem k_Md_isGood_52 : am_Snd gG mt yMd_isGood 52 (72, 0, 0, 0, 53, []) := sd_zret 0 0 0 53 [] (da dk_Md_isGood (k := 33) rfl) rfl
theorem k_Md_isGood_53 : am_Snd gG mt yMd_isGood 53 (5, 1, 2, 0, 56, []) := sd_iinc 1 2 0 [] (da dk_Md_isGood (k := 34) rfl)
theorem k_Md_isGood_56 : am_Snd gG mt yMd_isGood 56 (26, 0, 22, 0, 59, []) := sd_goto 0 22 0 59 [] (da dk_Md_isGood (k := 35) rfl) (by decide)
theorem k_Md_isGood_59 : am_Snd gG mt yMd_isGood 59 (2, 0, 0, 0, 60, []) := sd_aload_n 0 0 0 [] rfl (da dk_Md_isGood (k := 36) rfl)
theorem k_Md_isGood_60 : am_Snd gG mt yMd_isGood 60 (1, 0, 1, 0, 61, []) := sd_iload_n 0 1 0 [] rfl (da dk_Md_isGood (k := 37) rfl)
theorem k_Md_isGood_61 : am_Snd gG mt yMd_isGood 61 (61, 3, 116, 2, 64, [(0, 7)]) := sd_callV 3 116 2 7 mt_116 (da dk_Md_isGood (k := 38) rfl) gG_ok rfl w_841 (List.forall_mem_cons.2 ⟨w_838, List.forall_mem_cons.2 ⟨w_840, List.forall_mem_cons.2 ⟨w_36, List.forall_mem_cons.2 ⟨w_53, fun _ h => absurd h List.not_mem_nil⟩⟩⟩⟩) hd_116 (by decide) rfl (Nat.le_of_ble_eq_true rfl) (Nat.le_of_ble_eq_true rfl)
theorem k_Md_isGood_64 : am_Snd gG mt yMd_isGood 64 (2, 0, 0, 0, 65, []) := sd_aload_n 0 0 0 [] rfl (da dk_Md_isGood (k := 39) rfl)
theorem k_Md_isGood_65 : am_Snd gG mt yMd_isGood 65 (1, 0, 1, 0, 66, []) := sd_iload_n 0 1 0 [] rfl (da dk_Md_isGood (k := 40) rfl)
theorem k_Md_isGood_66 : am_Snd gG mt yMd_isGood 66 (2, 0, 0, 0, 67, []) := sd_aload_n 0 0 0 [] rfl (da dk_Md_isGood (k := 41) rfl)
theorem k_Md_isGood_67 : am_Snd gG mt yMd_isGood 67 (40, 0, 7, 30, 70, []) := sd_getf 0 7 30 [] (da dk_Md_isGood (k := 42) rfl) rfl (by decide) hin_7 w_680
theorem k_Md_isGood_70 : am_Snd gG mt yMd_isGood 70 (0, 0, 0, 0, 71, []) := sd_iconst 0 0 0 [] (da dk_Md_isGood (k := 43) rfl)
theorem k_Md_isGood_71 : am_Snd gG mt yMd_isGood 71 (61, 0, 103, 4, 74, [(0, 7)]) := sd_callV 0 103 4 7 mt_103 (da dk_Md_isGood (k := 44) rfl) gG_ok rfl w_789 (List.forall_mem_cons.2 ⟨w_786, List.forall_mem_cons.2 ⟨w_788, List.forall_mem_cons.2 ⟨w_23, List.forall_mem_cons.2 ⟨w_53, fun _ h => absurd h List.not_mem_nil⟩⟩⟩⟩) hd_103 (by decide) rfl (Nat.le_of_ble_eq_true rfl) (Nat.le_of_ble_eq_true rfl)
theorem k_Md_isGood_74 : am_Snd gG mt yMd_isGood 74 (30, 0, 97, 0, 77, []) := sd_if_eq 0 97 [] (da dk_Md_isGood (k := 45) rfl) (by decide)
theorem k_Md_isGood_77 : am_Snd gG mt yMd_isGood 77 (2, 0, 0, 0, 78, []) := sd_aload_n 0 0 0 [] rfl (da dk_Md_isGood (k := 46) rfl)
theorem k_Md_isGood_78 : am_Snd gG mt yMd_isGood 78 (1, 0, 1, 0, 79, []) := sd_iload_n 0 1 0 [] rfl (da dk_Md_isGood (k := 47) rfl)
theorem k_Md_isGood_79 : am_Snd gG mt yMd_isGood 79 (2, 0, 0, 0, 80, []) := sd_aload_n 0 0 0 [] rfl (da dk_Md_isGood (k := 48) rfl)
theorem k_Md_isGood_80 : am_Snd gG mt yMd_isGood 80 (40, 0, 7, 12, 83, []) := sd_getf 0 7 12 [] (da dk_Md_isGood (k := 49) rfl) rfl (by decide) hin_7 w_662
theorem k_Md_isGood_83 : am_Snd gG mt yMd_isGood 83 (0, 23, 0, 0, 85, []) := sd_bipush 23 0 0 [] (da dk_Md_isGood (k := 50) rfl) (by decide)
theorem k_Md_isGood_85 : am_Snd gG mt yMd_isGood 85 (1, 0, 1, 0, 86, []) := sd_iload_n 0 1 0 [] rfl (da dk_Md_isGood (k := 51) rfl)
theorem k_Md_isGood_86 : am_Snd gG mt yMd_isGood 86 (8, 0, 0, 0, 87, []) := sd_imul 0 0 0 [] (da dk_Md_isGood (k := 52) rfl)
theorem k_Md_isGood_87 : am_Snd gG mt yMd_isGood 87 (61, 0, 103, 4, 90, [(0, 7)]) := sd_callV 0 103 4 7 mt_103 (da dk_Md_isGood (k := 53) rfl) gG_ok rfl w_789 (List.forall_mem_cons.2 ⟨w_786, List.forall_mem_cons.2 ⟨w_788, List.forall_mem_cons.2 ⟨w_23, List.forall_mem_cons.2 ⟨w_53, fun _ h => absurd h List.not_mem_nil⟩⟩⟩⟩) hd_103 (by decide) rfl (Nat.le_of_ble_eq_true rfl) (Nat.le_of_ble_eq_true rfl)
theorem k_Md_isGood_90 : am_Snd gG mt yMd_isGood 90 (30, 0, 97, 0, 93, []) := sd_if_eq 0 97 [] (da dk_Md_isGood (k := 54) rfl) (by decide)
theorem k_Md_isGood_93 : am_Snd gG mt yMd_isGood 93 (0, 1, 0, 0, 94, []) := sd_iconst 1 0 0 [] (da dk_Md_isGood (k := 55) rfl)
theorem k_Md_isGood_94 : am_Snd gG mt yMd_isGood 94 (26, 0, 98, 0, 97, []) := sd_goto 0 98 0 97 [] (da dk_Md_isGood (k := 56) rfl) (by decide)
theorem k_Md_isGood_97 : am_Snd gG mt yMd_isGood 97 (0, 0, 0, 0, 98, []) := sd_iconst 0 0 0 [] (da dk_Md_isGood (k := 57) rfl)
theorem k_Md_isGood_98 : am_Snd gG mt yMd_isGood 98 (72, 0, 0, 0, 99, []) := sd_zret 0 0 0 99 [] (da dk_Md_isGood (k := 58) rfl) rfl
set_option maxRecDepth 20000 in
theorem ks_Md_isGood : ∀ q ∈ tMd_isGood, am_Snd gG mt yMd_isGood q.1 q.2 := List.forall_mem_cons.2 ⟨k_Md_isGood_0, List.forall_mem_cons.2 ⟨k_Md_isGood_1, List.forall_mem_cons.2 ⟨k_Md_isGood_4, List.forall_mem_cons.2 ⟨k_Md_isGood_5, List.forall_mem_cons.2 ⟨k_Md_isGood_6, List.forall_mem_cons.2 ⟨k_Md_isGood_9, List.forall_mem_cons.2 ⟨k_Md_isGood_10, List.forall_mem_cons.2 ⟨k_Md_isGood_13, List.forall_mem_cons.2 ⟨k_Md_isGood_14, List.forall_mem_cons.2 ⟨k_Md_isGood_15, List.forall_mem_cons.2 ⟨k_Md_isGood_18, List.forall_mem_cons.2 ⟨k_Md_isGood_19, List.forall_mem_cons.2 ⟨k_Md_isGood_20, List.forall_mem_cons.2 ⟨k_Md_isGood_21, List.forall_mem_cons.2 ⟨k_Md_isGood_22, List.forall_mem_cons.2 ⟨k_Md_isGood_23, List.forall_mem_cons.2 ⟨k_Md_isGood_24, List.forall_mem_cons.2 ⟨k_Md_isGood_27, List.forall_mem_cons.2 ⟨k_Md_isGood_28, List.forall_mem_cons.2 ⟨k_Md_isGood_29, List.forall_mem_cons.2 ⟨k_Md_isGood_32, List.forall_mem_cons.2 ⟨k_Md_isGood_33, List.forall_mem_cons.2 ⟨k_Md_isGood_36, List.forall_mem_cons.2 ⟨k_Md_isGood_37, List.forall_mem_cons.2 ⟨k_Md_isGood_40, List.forall_mem_cons.2 ⟨k_Md_isGood_42, List.forall_mem_cons.2 ⟨k_Md_isGood_43, List.forall_mem_cons.2 ⟨k_Md_isGood_44, List.forall_mem_cons.2 ⟨k_Md_isGood_45, List.forall_mem_cons.2 ⟨k_Md_isGood_46, List.forall_mem_cons.2 ⟨k_Md_isGood_47, List.forall_mem_cons.2 ⟨k_Md_isGood_48, List.forall_mem_cons.2 ⟨k_Md_isGood_51, List.forall_mem_cons.2 ⟨k_Md_isGood_52, List.forall_mem_cons.2 ⟨k_Md_isGood_53, List.forall_mem_cons.2 ⟨k_Md_isGood_56, List.forall_mem_cons.2 ⟨k_Md_isGood_59, List.forall_mem_cons.2 ⟨k_Md_isGood_60, List.forall_mem_cons.2 ⟨k_Md_isGood_61, List.forall_mem_cons.2 ⟨k_Md_isGood_64, List.forall_mem_cons.2 ⟨k_Md_isGood_65, List.forall_mem_cons.2 ⟨k_Md_isGood_66, List.forall_mem_cons.2 ⟨k_Md_isGood_67, List.forall_mem_cons.2 ⟨k_Md_isGood_70, List.forall_mem_cons.2 ⟨k_Md_isGood_71, List.forall_mem_cons.2 ⟨k_Md_isGood_74, List.forall_mem_cons.2 ⟨k_Md_isGood_77, List.forall_mem_cons.2 ⟨k_Md_isGood_78, List.forall_mem_cons.2 ⟨k_Md_isGood_79, List.forall_mem_cons.2 ⟨k_Md_isGood_80, List.forall_mem_cons.2 ⟨k_Md_isGood_83, List.forall_mem_cons.2 ⟨k_Md_isGood_85, List.forall_mem_cons.2 ⟨k_Md_isGood_86, List.forall_mem_cons.2 ⟨k_Md_isGood_87, List.forall_mem_cons.2 ⟨k_Md_isGood_90, List.forall_mem_cons.2 ⟨k_Md_isGood_93, List.forall_mem_cons.2 ⟨k_Md_isGood_94, List.forall_mem_cons.2 ⟨k_Md_isGood_97, List.forall_mem_cons.2 ⟨k_Md_isGood_98, fun _ h => absurd h List.not_mem_nil⟩⟩⟩⟩⟩⟩⟩⟩⟩⟩⟩⟩⟩⟩⟩⟩⟩⟩⟩⟩⟩⟩⟩⟩⟩⟩⟩⟩⟩⟩⟩⟩⟩⟩⟩⟩⟩⟩⟩⟩⟩⟩⟩⟩⟩⟩⟩⟩⟩⟩⟩⟩⟩⟩⟩⟩⟩⟩⟩
def dl_Md_renew : List (Nat × Instr × Nat) := [(0, .aload_n 0, 1), (1, .iconst 0, 1), (2, .putfield 134, 3), (5, .iconst 0, 1), (6, .istore_n 2, 1), (7, .iload_n 2, 1), (8, .aload_n 0, 1), (9, .getfield 131, 3), (12, .if_icmp .ge 41, 3), (15, .aload_n 0, 1), (16, .iload_n 1, 1), (17, .iload_n 2, 1), (18, .invokevirtual 194, 3), (21, .ifCond .ne 6, 3), (24, .goto 23, 3), (27, .aload_n 0, 1), (28, .getfield 66, 3), (31, .aload_n 0, 1), (32, .getfield 134, 3), (35, .iload_n 2, 1), (36, .iastore, 1), (37, .aload_n 0, 1), (38, .dup, 1), (39, .getfield 134, 3), (42, .iconst 1, 1), (43, .iadd, 1), (44, .putfield 134, 3), (47, .iinc 2 1, 3), (50, .goto (-43), 3), (53, .aload_n 0, 1), (54, .invokevirtual 180, 3), (57, .iconst 0, 1), (58, .istore_n 2, 1), (59, .iload_n 2, 1), (60, .bipush 23, 2), (62, .if_icmp .ge 26, 3), (65, .aload_n 0, 1), (66, .getfield 63, 3), (69, .bipush 23, 2), (71, .iload_n 1, 1), (72, .imul, 1), (73, .iload_n 2, 1), (74, .iadd, 1), (75, .aload_n 0, 1), (76, .getfield 69, 3), (79, .iload_n 2, 1), (80, .iaload, 1), (81, .iastore, 1), (82, .iinc 2 1, 3), (85, .goto (-26), 3), (88, .return_, 1)]
set_option maxRecDepth 20000 in
theorem dk_Md_renew : (dl_Md_renew.all fun q => decide (decode prog_10_method_30_code q.1 = .ok (q.2.1, q.2.2))) = true := by decide +kernel
theorem k_Md_renew_0 : am_Snd gG mt yMd_renew 0 (2, 0, 0, 0, 1, []) := sd_aload_n 0 0 0 [] rfl (da dk_Md_renew (k := 0) rfl)
theorem k_Md_renew_1 : am_Snd gG mt yMd_renew 1 (0, 0, 0, 0, 2, []) := sd_iconst 0 0 0 [] (da dk_Md_renew (k := 1) rfl)
theorem k_Md_renew_2 : am_Snd gG mt yMd_renew 2 (41, 0, 7, 20, 5, []) := sd_putf 0 7 20 [] cTy_7 (da dk_Md_renew (k := 2) rfl) rfl (by decide) hin_7 cTyok_7 cNm_7 w_670 (Or.inl rfl) rfl
theorem k_Md_renew_5 : am_Snd gG mt yMd_renew 5 (0, 0, 0, 0, 6, []) := sd_iconst 0 0 0 [] (da dk_Md_renew (k := 3) rfl)
theorem k_Md_renew_6 : am_Snd gG mt yMd_renew 6 (3, 0, 2, 0, 7, []) := sd_istore_n 0 2 0 [] rfl (da dk_Md_renew (k := 4) rfl)
theorem k_Md_renew_7 : am_Snd gG mt yMd_renew 7 (1, 0, 2, 0, 8, []) := sd_iload_n 0 2 0 [] rfl (da dk_Md_renew (k := 5) rfl)
theorem k_Md_renew_8 : am_Snd gG mt yMd_renew 8 (2, 0, 0, 0, 9, []) := sd_aload_n 0 0 0 [] rfl (da dk_Md_renew (k := 6) rfl)
theorem k_Md_renew_9 : am_Snd gG mt yMd_renew 9 (40, 0, 7, 14, 12, []) := sd_getf 0 7 14 [] (da dk_Md_renew (k := 7) rfl) rfl (by decide) hin_7 w_664
theorem k_Md_renew_12 : am_Snd gG mt yMd_renew 12 (31, 0, 53, 3, 15, []) := sd_icmp_ge 0 53 [] (da dk_Md_renew (k := 8) rfl) (by decide)
theorem k_Md_renew_15 : am_Snd gG mt yMd_renew 15 (2, 0, 0, 0, 16, []) := sd_aload_n 0 0 0 [] rfl (da dk_Md_renew (k := 9) rfl)
theorem k_Md_renew_16 : am_Snd gG mt yMd_renew 16 (1, 0, 1, 0, 17, []) := sd_iload_n 0 1 0 [] rfl (da dk_Md_renew (k := 10) rfl)
theorem k_Md_renew_17 : am_Snd gG mt yMd_renew 17 (1, 0, 2, 0, 18, []) := sd_iload_n 0 2 0 [] rfl (da dk_Md_renew (k := 11) rfl)
theorem k_Md_renew_18 : am_Snd gG mt yMd_renew 18 (61, 2, 97, 3, 21, [(0, 7)]) := sd_callV 2 97 3 7 mt_97 (da dk_Md_renew (k := 12) rfl) gG_ok rfl w_765 (List.forall_mem_cons.2 ⟨w_762, List.forall_mem_cons.2 ⟨w_764, List.forall_mem_cons.2 ⟨w_17, List.forall_mem_cons.2 ⟨w_53, fun _ h => absurd h List.not_mem_nil⟩⟩⟩⟩) hd_97 (by decide) rfl (Nat.le_of_ble_eq_true rfl) (Nat.le_of_ble_eq_true rfl)
theorem k_Md_renew_21 : am_Snd gG mt yMd_renew 21 (30, 0, 27, 1, 24, []) := sd_if_ne 0 27 [] (da dk_Md_renew (k := 13) rfl) (by decide)
theorem k_Md_renew_24 : am_Snd gG mt yMd_renew 24 (26, 0, 47, 0, 27, []) := sd_goto 0 47 0 27 [] (da dk_Md_renew (k := 14) rfl) (by decide)
theorem k_Md_renew_27 : am_Snd gG mt yMd_renew 27 (2, 0, 0, 0, 28, []) := sd_aload_n 0 0 0 [] rfl (da dk_Md_renew (k := 15) rfl)
theorem k_Md_renew_28 : am_Snd gG mt yMd_renew 28 (40, 0, 7, 19, 31, []) := sd_getf 0 7 19 [] (da dk_Md_renew (k := 16) rfl) rfl (by decide) hin_7 w_669
theorem k_Md_renew_31 : am_Snd gG mt yMd_renew 31 (2, 0, 0, 0, 32, []) := sd_aload_n 0 0 0 [] rfl (da dk_Md_renew (k := 17) rfl)
theorem k_Md_renew_32 : am_Snd gG mt yMd_renew 32 (40, 0, 7, 20, 35, []) := sd_getf 0 7 20 [] (da dk_Md_renew (k := 18) rfl) rfl (by decide) hin_7 w_670
theorem k_Md_renew_35 : am_Snd gG mt yMd_renew 35 (1, 0, 2, 0, 36, []) := sd_iload_n 0 2 0 [] rfl (da dk_Md_renew (k := 19) rfl)
theorem k_Md_renew_36 : am_Snd gG mt yMd_renew 36 (46, 0, 0, 0, 37, []) := sd_iast 0 0 0 [] (da dk_Md_renew (k := 20) rfl) rfl rfl
theorem k_Md_renew_37 : am_Snd gG mt yMd_renew 37 (2, 0, 0, 0, 38, []) := sd_aload_n 0 0 0 [] rfl (da dk_Md_renew (k := 21) rfl)
theorem k_Md_renew_38 : am_Snd gG mt yMd_renew 38 (13, 0, 0, 0, 39, []) := sd_dup 0 0 0 [] (da dk_Md_renew (k := 22) rfl)
theorem k_Md_renew_39 : am_Snd gG mt yMd_renew 39 (40, 0, 7, 20, 42, []) := sd_getf 0 7 20 [] (da dk_Md_renew (k := 23) rfl) rfl (by decide) hin_7 w_670
theorem k_Md_renew_42 : am_Snd gG mt yMd_renew 42 (0, 1, 0, 0, 43, []) := sd_iconst 1 0 0 [] (da dk_Md_renew (k := 24) rfl)
theorem k_Md_renew_43 : am_Snd gG mt yMd_renew 43 (6, 0, 0, 0, 44, []) := sd_iadd 0 0 0 [] (da dk_Md_renew (k := 25) rfl)
theorem k_Md_renew_44 : am_Snd gG mt yMd_renew 44 (41, 0, 7, 20, 47, []) := sd_putf 0 7 20 [] cTy_7 (da dk_Md_renew (k := 26) rfl) rfl (by decide) hin_7 cTyok_7 cNm_7 w_670 (Or.inl rfl) rfl
theorem k_Md_renew_47 : am_Snd gG mt yMd_renew 47 (5, 1, 2, 0, 50, []) := sd_iinc 1 2 0 [] (da dk_Md_renew (k := 27) rfl)
theorem k_Md_renew_50 : am_Snd gG mt yMd_renew 50 (26, 0, 7, 0, 53, []) := sd_goto 0 7 0 53 [] (da dk_Md_renew (k := 28) rfl) (by decide)
theorem k_Md_renew_53 : am_Snd gG mt yMd_renew 53 (2, 0, 0, 0, 54, []) := sd_aload_n 0 0 0 [] rfl (da dk_Md_renew (k := 29) rfl)
theorem k_Md_renew_54 : am_Snd gG mt yMd_renew 54 (61, 2, 109, 1, 57, [(0, 7)]) := sd_callV 2 109 1 7 mt_109 (da dk_Md_renew (k := 30) rfl) gG_ok rfl w_813 (List.forall_mem_cons.2 ⟨w_810, List.forall_mem_cons.2 ⟨w_812, List.forall_mem_cons.2 ⟨w_29, List.forall_mem_cons.2 ⟨w_53, fun _ h => absurd h List.not_mem_nil⟩⟩⟩⟩) hd_109 (by decide) rfl (Nat.le_of_ble_eq_true rfl) (Nat.le_of_ble_eq_true rfl)
theorem k_Md_renew_57 : am_Snd gG mt yMd_renew 57 (0, 0, 0, 0, 58, []) := sd_iconst 0 0 0 [] (da dk_Md_renew (k := 31) rfl)
theorem k_Md_renew_58 : am_Snd gG mt yMd_renew 58 (3, 0, 2, 0, 59, []) := sd_istore_n 0 2 0 [] rfl (da dk_Md_renew (k := 32) rfl)
theorem k_Md_renew_59 : am_Snd gG mt yMd_renew 59 (1, 0, 2, 0, 60, []) := sd_iload_n 0 2 0 [] rfl (da dk_Md_renew (k := 33) rfl)
theorem k_Md_renew_60 : am_Snd gG mt yMd_renew 60 (0, 23, 0, 0, 62, []) := sd_bipush 23 0 0 [] (da dk_Md_renew (k := 34) rfl) (by decide)
theorem k_Md_renew_62 : am_Snd gG mt yMd_renew 62 (31, 0, 88, 3, 65, []) := sd_icmp_ge 0 88 [] (da dk_Md_renew (k := 35) rfl) (by decide)
theorem k_Md_renew_65 : am_Snd gG mt yMd_renew 65 (2, 0, 0, 0, 66, []) := sd_aload_n 0 0 0 [] rfl (da dk_Md_renew (k := 36) rfl)
theorem k_Md_renew_66 : am_Snd gG mt yMd_renew 66 (40, 0, 7, 18, 69, []) := sd_getf 0 7 18 [] (da dk_Md_renew (k := 37) rfl) rfl (by decide) hin_7 w_668
theorem k_Md_renew_69 : am_Snd gG mt yMd_renew 69 (0, 23, 0, 0, 71, []) := sd_bipush 23 0 0 [] (da dk_Md_renew (k := 38) rfl) (by decide)
theorem k_Md_renew_71 : am_Snd gG mt yMd_renew 71 (1, 0, 1, 0, 72, []) := sd_iload_n 0 1 0 [] rfl (da dk_Md_renew (k := 39) rfl)
theorem k_Md_renew_72 : am_Snd gG mt yMd_renew 72 (8, 0, 0, 0, 73, []) := sd_imul 0 0 0 [] (da dk_Md_renew (k := 40) rfl)
theorem k_Md_renew_73 : am_Snd gG mt yMd_renew 73 (1, 0, 2, 0, 74, []) := sd_iload_n 0 2 0 [] rfl (da dk_Md_renew (k := 41) rfl)
theorem k_Md_renew_74 : am_Snd gG mt yMd_renew 74 (6, 0, 0, 0, 75, []) := sd_iadd 0 0 0 [] (da dk_Md_renew (k := 42) rfl)
theorem k_Md_renew_75 : am_Snd gG mt yMd_renew 75 (2, 0, 0, 0, 76, []) := sd_aload_n 0 0 0 [] rfl (da dk_Md_renew (k := 43) rfl)
theorem k_Md_renew_76 : am_Snd gG mt yMd_renew 76 (40, 0, 7, 21, 79, []) := sd_getf 0 7 21 [] (da dk_Md_renew (k := 44) rfl) rfl (by decide) hin_7 w_671
theorem k_Md_renew_79 : am_Snd gG mt yMd_renew 79 (1, 0, 2, 0, 80, []) := sd_iload_n 0 2 0 [] rfl (da dk_Md_renew (k := 45) rfl)
theorem k_Md_renew_80 : am_Snd gG mt yMd_renew 80 (42, 0, 0, 0, 81, []) := sd_iald 0 0 0 [] (da dk_Md_renew (k := 46) rfl) rfl rfl
theorem k_Md_renew_81 : am_Snd gG mt yMd_renew 81 (46, 0, 0, 0, 82, []) := sd_iast 0 0 0 [] (da dk_Md_renew (k := 47) rfl) rfl rfl
theorem k_Md_renew_82 : am_Snd gG mt yMd_renew 82 (5, 1, 2, 0, 85, []) := sd_iinc 1 2 0 [] (da dk_Md_renew (k := 48) rfl)
theorem k_Md_renew_85 : am_Snd gG mt yMd_renew 85 (26, 0, 59, 0, 88, []) := sd_goto 0 59 0 88 [] (da dk_Md_renew (k := 49) rfl) (by decide)
theorem k_Md_renew_88 : am_Snd gG mt yMd_renew 88 (70, 0, 0, 0, 89, []) := sd_ret 0 0 0 89 [] (da dk_Md_renew (k := 50) rfl) rfl
set_option maxRecDepth 20000 in
theorem ks_Md_renew : ∀ q ∈ tMd_renew, am_Snd gG mt yMd_renew q.1 q.2 := List.forall_mem_cons.2 ⟨k_Md_renew_0, List.forall_mem_cons.2 ⟨k_Md_renew_1, List.forall_mem_cons.2 ⟨k_Md_renew_2, List.forall_mem_cons.2 ⟨k_Md_renew_5, List.forall_mem_cons.2 ⟨k_Md_renew_6, List.forall_mem_cons.2 ⟨k_Md_renew_7, List.forall_mem_cons.2 ⟨k_Md_renew_8, List.forall_mem_cons.2 ⟨k_Md_renew_9, List.forall_mem_cons.2 ⟨k_Md_renew_12, List.forall_mem_cons.2 ⟨k_Md_renew_15, List.forall_mem_cons.2 ⟨k_Md_renew_16, List.forall_mem_cons.2 ⟨k_Md_renew_17, List.forall_mem_cons.2 ⟨k_Md_renew_18, List.forall_mem_cons.2 ⟨k_Md_renew_21, List.forall_mem_cons.2 ⟨k_Md_renew_24, List.forall_mem_cons.2 ⟨k_Md_renew_27, List.forall_mem_cons.2 ⟨k_Md_renew_28, List.forall_mem_cons.2 ⟨k_Md_renew_31, List.forall_mem_cons.2 ⟨k_Md_renew_32, List.forall_mem_cons.2 ⟨k_Md_renew_35, List.forall_mem_cons.2 ⟨k_Md_renew_36, List.forall_mem_cons.2 ⟨k_Md_renew_37, List.forall_mem_cons.2 ⟨k_Md_renew_38, List.forall_mem_cons.2 ⟨k_Md_renew_39, List.forall_mem_cons.2 ⟨k_Md_renew_42, List.forall_mem_cons.2 ⟨k_Md_renew_43, List.forall_mem_cons.2 ⟨k_Md_renew_44, List.forall_mem_cons.2 ⟨k_Md_renew_47, List.forall_mem_cons.2 ⟨k_Md_renew_50, List.forall_mem_cons.2 ⟨k_Md_renew_53, List.forall_mem_cons.2 ⟨k_Md_renew_54, List.forall_mem_cons.2 ⟨k_Md_renew_57, List.forall_mem_cons.2 ⟨k_Md_renew_58, List.forall_mem_cons.2 ⟨k_Md_renew_59, List.forall_mem_cons.2 ⟨k_Md_renew_60, List.forall_mem_cons.2 ⟨k_Md_renew_62, List.forall_mem_cons.2 ⟨k_Md_renew_65, List.forall_mem_cons.2 ⟨k_Md_renew_66, List.forall_mem_cons.2 ⟨k_Md_renew_69, List.forall_mem_cons.2 ⟨k_Md_renew_71, List.forall_mem_cons.2 ⟨k_Md_renew_72, List.forall_mem_cons.2 ⟨k_Md_renew_73, List.forall_mem_cons.2 ⟨k_Md_renew_74, List.forall_mem_cons.2 ⟨k_Md_renew_75, List.forall_mem_cons.2 ⟨k_Md_renew_76, List.forall_mem_cons.2 ⟨k_Md_renew_79, List.forall_mem_cons.2 ⟨k_Md_renew_80, List.forall_mem_cons.2 ⟨k_Md_renew_81, List.forall_mem_cons.2 ⟨k_Md_renew_82, List.forall_mem_cons.2 ⟨k_Md_renew_85, List.forall_mem_cons.2 ⟨k_Md_renew_88, fun _ h => absurd h List.not_mem_nil⟩⟩⟩⟩⟩⟩⟩⟩⟩⟩⟩⟩⟩⟩⟩⟩⟩⟩⟩⟩⟩⟩⟩⟩⟩⟩⟩⟩⟩⟩⟩⟩⟩⟩⟩⟩⟩⟩⟩⟩⟩⟩⟩⟩⟩⟩⟩⟩⟩⟩⟩
def dl_Md_forge : List (Nat × Instr × Nat) := [(0, .iload_n 1, 1), (1, .iload_n 2, 1), (2, .iload_n 3, 1), (3, .iload 4, 2), (5, .invokestatic 197, 3), (8, .ifCond .eq 5, 3), (11, .iconst (-1), 1), (12, .ireturn, 1), (13, .iload_n 1, 1), (14, .iconst 4, 1), (15, .irem, 1), (16, .istore 8, 2), (18, .iload 6, 2), (20, .iconst (-1), 1), (21, .if_icmp .eq 37, 3), (24, .iload 6, 2), (26, .ifCond .lt 29, 3), (29, .iload 6, 2), (31, .aload_n 0, 1), (32, .getfield 131, 3), (35, .if_icmp .ge 20, 3), (38, .aload_n 0, 1), (39, .getfield 54, 3), (42, .sipush 400, 3), (45, .iload 8, 2), (47, .imul, 1), (48, .iload 6, 2), (50, .iadd, 1), (51, .baload, 1), (52, .ifCond .ne 6, 3), (55, .bipush (-2), 2), (57, .ireturn, 1), (58, .iload 7, 2), (60, .iconst (-1), 1), (61, .if_icmp .eq 37, 3), (64, .iload 7, 2), (66, .ifCond .lt 29, 3), (69, .iload 7, 2), (71, .aload_n 0, 1), (72, .getfield 131, 3), (75, .if_icmp .ge 20, 3), (78, .aload_n 0, 1), (79, .getfield 54, 3), (82, .sipush 400, 3), (85, .iload 8, 2), (87, .imul, 1), (88, .iload 7, 2), (90, .iadd, 1), (91, .baload, 1), (92, .ifCond .ne 6, 3), (95, .bipush (-2), 2), (97, .ireturn, 1), (98, .aload_n 0, 1), (99, .getfield 131, 3), (102, .sipush 400, 3), (105, .if_icmp .ne 6, 3), (108, .bipush (-3), 2), (110, .ireturn, 1), (111, .aload_n 0, 1), (112, .getfield 131, 3), (115, .istore 9, 2), (117, .aload_n 0, 1), (118, .iload_n 1, 1), (119, .iload_n 2, 1), (120, .iload_n 3, 1), (121, .iload 4, 2), (123, .iload 5, 2), (125, .invokevirtual 201, 3), (128, .iload 6, 2), (130, .ifCond .lt 22, 3), (133, .aload_n 0, 1), (134, .getfield 25, 3), (137, .iconst 4, 1), (138, .iload 9, 2), (140, .imul, 1), (141, .iload 6, 2), (143, .iastore, 1), (144, .aload_n 0, 1), (145, .getfield 28, 3), (148, .iload 9, 2), (150, .iconst 1, 1), (151, .iastore, 1), (152, .iload 7, 2), (154, .ifCond .lt 40, 3), (157, .iload 7, 2), (159, .iload 6, 2), (161, .if_icmp .eq 33, 3), (164, .aload_n 0, 1), (165, .getfield 25, 3), (168, .iconst 4, 1), (169, .iload 9, 2), (171, .imul, 1), (172, .aload_n 0, 1), (173, .getfield 28, 3), (176, .iload 9, 2), (178, .iaload, 1), (179, .iadd, 1), (180, .iload 7, 2), (182, .iastore, 1), (183, .aload_n 0, 1), (184, .getfield 28, 3), (187, .iload 9, 2), (189, .dup2, 1), (190, .iaload, 1), (191, .iconst 1, 1), (192, .iadd, 1), (193, .iastore, 1), (194, .aload_n 0, 1), (195, .aload_n 0, 1), (196, .getfield 28, 3), (199, .iload 9, 2), (201, .iaload, 1), (202, .putfield 134, 3), (205, .iconst 0, 1), (206, .istore 10, 2), (208, .iload 10, 2), (210, .aload_n 0, 1), (211, .getfield 134, 3), (214, .if_icmp .ge 28, 3), (217, .aload_n 0, 1), (218, .getfield 66, 3), (221, .iload 10, 2), (223, .aload_n 0, 1), (224, .getfield 25, 3), (227, .iconst 4, 1), (228, .iload 9, 2), (230, .imul, 1), (231, .iload 10, 2), (233, .iadd, 1), (234, .iaload, 1), (235, .iastore, 1), (236, .iinc 10 1, 3), (239, .goto (-31), 3), (242, .aload_n 0, 1), (243, .invokevirtual 180, 3), (246, .aload_n 0, 1), (247, .aload_n 0, 1), (248, .getfield 69, 3), (251, .iconst 0, 1), (252, .invokevirtual 205, 3), (255, .aload_n 0, 1), (256, .invokevirtual 209, 3), (259, .aload_n 0, 1), (260, .getfield 54, 3), (263, .sipush 400, 3), (266, .iload 8, 2), (268, .imul, 1), (269, .iload 9, 2), (271, .iadd, 1), (272, .iconst 1, 1), (273, .bastore, 1), (274, .aload_n 0, 1), (275, .iload 8, 2), (277, .invokevirtual 212, 3), (280, .iload 9, 2), (282, .ireturn, 1)]
set_option maxRecDepth 20000 in
theorem dk_Md_forge : (dl_Md_forge.all fun q => decide (decode prog_10_method_33_code q.1 = .ok (q.2.1, q.2.2))) = true := by decide +kernel
theorem k_Md_forge_0 : am_Snd gG mt yMd_forge 0 (1, 0, 1, 0, 1, []) := sd_iload_n 0 1 0 [] rfl (da dk_Md_forge (k := 0) rfl)
theorem k_Md_forge_1 : am_Snd gG mt yMd_forge 1 (1, 0, 2, 0, 2, []) := sd_iload_n 0 2 0 [] rfl (da dk_Md_forge (k := 1) rfl)
theorem k_Md_forge_2 : am_Snd gG mt yMd_forge 2 (1, 0, 3, 0, 3, []) := sd_iload_n 0 3 0 [] rfl (da dk_Md_forge (k := 2) rfl)
theorem k_Md_forge_3 : am_Snd gG mt yMd_forge 3 (1, 0, 4, 0, 5, []) := sd_iload 0 4 0 [] (da dk_Md_forge (k := 3) rfl)
theorem k_Md_forge_5 : am_Snd gG mt yMd_forge 5 (60, 0, 95, 4, 8, []) := sd_callS 0 95 4 [] mt_95 (da dk_Md_forge (k := 4) rfl) gG_ok w_757 (List.forall_mem_cons.2 ⟨w_755, List.forall_mem_cons.2 ⟨w_756, List.forall_mem_cons.2 ⟨w_53, fun _ h => absurd h List.not_mem_nil⟩⟩⟩) hd_95 rfl (Nat.le_of_ble_eq_true rfl) (Nat.le_of_ble_eq_true rfl)
theorem k_Md_forge_8 : am_Snd gG mt yMd_forge 8 (30, 0, 13, 0, 11, []) := sd_if_eq 0 13 [] (da dk_Md_forge (k := 5) rfl) (by decide)
theorem k_Md_forge_11 : am_Snd gG mt yMd_forge 11 (0, (-1), 0, 0, 12, []) := sd_iconst (-1) 0 0 [] (da dk_Md_forge (k := 6) rfl)
theorem k_Md_forge_12 : am_Snd gG mt yMd_forge 12 (71, 0, 0, 0, 13, []) := sd_iret 0 0 0 13 [] (da dk_Md_forge (k := 7) rfl) rfl
theorem k_Md_forge_13 : am_Snd gG mt yMd_forge 13 (1, 0, 1, 0, 14, []) := sd_iload_n 0 1 0 [] rfl (da dk_Md_forge (k := 8) rfl)
theorem k_Md_forge_14 : am_Snd gG mt yMd_forge 14 (0, 4, 0, 0, 15, []) := sd_iconst 4 0 0 [] (da dk_Md_forge (k := 9) rfl)
theorem k_Md_forge_15 : am_Snd gG mt yMd_forge 15 (12, 0, 0, 0, 16, []) := sd_irem 0 0 0 [] (da dk_Md_forge (k := 10) rfl)
theorem k_Md_forge_16 : am_Snd gG mt yMd_forge 16 (3, 0, 8, 0, 18, []) := sd_istore 0 8 0 [] (da dk_Md_forge (k := 11) rfl)
theorem k_Md_forge_18 : am_Snd gG mt yMd_forge 18 (1, 0, 6, 0, 20, []) := sd_iload 0 6 0 [] (da dk_Md_forge (k := 12) rfl)
theorem k_Md_forge_20 : am_Snd gG mt yMd_forge 20 (0, (-1), 0, 0, 21, []) := sd_iconst (-1) 0 0 [] (da dk_Md_forge (k := 13) rfl)
theorem k_Md_forge_21 : am_Snd gG mt yMd_forge 21 (31, 0, 58, 0, 24, []) := sd_icmp_eq 0 58 [] (da dk_Md_forge (k := 14) rfl) (by decide)
theorem k_Md_forge_24 : am_Snd gG mt yMd_forge 24 (1, 0, 6, 0, 26, []) := sd_iload 0 6 0 [] (da dk_Md_forge (k := 15) rfl)
theorem k_Md_forge_26 : am_Snd gG mt yMd_forge 26 (30, 0, 55, 2, 29, []) := sd_if_lt 0 55 [] (da dk_Md_forge (k := 16) rfl) (by decide)
theorem k_Md_forge_29 : am_Snd gG mt yMd_forge 29 (1, 0, 6, 0, 31, []) := sd_iload 0 6 0 [] (da dk_Md_forge (k := 17) rfl)
theorem k_Md_forge_31 : am_Snd gG mt yMd_forge 31 (2, 0, 0, 0, 32, []) := sd_aload_n 0 0 0 [] rfl (da dk_Md_forge (k := 18) rfl)
theorem k_Md_forge_32 : am_Snd gG mt yMd_forge 32 (40, 0, 7, 14, 35, []) := sd_getf 0 7 14 [] (da dk_Md_forge (k := 19) rfl) rfl (by decide) hin_7 w_664
theorem k_Md_forge_35 : am_Snd gG mt yMd_forge 35 (31, 0, 55, 3, 38, []) := sd_icmp_ge 0 55 [] (da dk_Md_forge (k := 20) rfl) (by decide)
theorem k_Md_forge_38 : am_Snd gG mt yMd_forge 38 (2, 0, 0, 0, 39, []) := sd_aload_n 0 0 0 [] rfl (da dk_Md_forge (k := 21) rfl)
theorem k_Md_forge_39 : am_Snd gG mt yMd_forge 39 (40, 0, 7, 15, 42, []) := sd_getf 0 7 15 [] (da dk_Md_forge (k := 22) rfl) rfl (by decide) hin_7 w_665
theorem k_Md_forge_42 : am_Snd gG mt yMd_forge 42 (0, 400, 0, 0, 45, []) := sd_sipush 400 0 0 [] (da dk_Md_forge (k := 23) rfl) (by decide)
theorem k_Md_forge_45 : am_Snd gG mt yMd_forge 45 (1, 0, 8, 0, 47, []) := sd_iload 0 8 0 [] (da dk_Md_forge (k := 24) rfl)
theorem k_Md_forge_47 : am_Snd gG mt yMd_forge 47 (8, 0, 0, 0, 48, []) := sd_imul 0 0 0 [] (da dk_Md_forge (k := 25) rfl)
theorem k_Md_forge_48 : am_Snd gG mt yMd_forge 48 (1, 0, 6, 0, 50, []) := sd_iload 0 6 0 [] (da dk_Md_forge (k := 26) rfl)
theorem k_Md_forge_50 : am_Snd gG mt yMd_forge 50 (6, 0, 0, 0, 51, []) := sd_iadd 0 0 0 [] (da dk_Md_forge (k := 27) rfl)
theorem k_Md_forge_51 : am_Snd gG mt yMd_forge 51 (42, 0, 1, 0, 52, []) := sd_bald 0 1 0 [] (da dk_Md_forge (k := 28) rfl) rfl rfl
theorem k_Md_forge_52 : am_Snd gG mt yMd_forge 52 (30, 0, 58, 1, 55, []) := sd_if_ne 0 58 [] (da dk_Md_forge (k := 29) rfl) (by decide)
theorem k_Md_forge_55 : am_Snd gG mt yMd_forge 55 (0, (-2), 0, 0, 57, []) := sd_bipush (-2) 0 0 [] (da dk_Md_forge (k := 30) rfl) (by decide)
theorem k_Md_forge_57 : am_Snd gG mt yMd_forge 57 (71, 0, 0, 0, 58, []) := sd_iret 0 0 0 58 [] (da dk_Md_forge (k := 31) rfl) rfl
theorem k_Md_forge_58 : am_Snd gG mt yMd_forge 58 (1, 0, 7, 0, 60, []) := sd_iload 0 7 0 [] (da dk_Md_forge (k := 32) rfl)
theorem k_Md_forge_60 : am_Snd gG mt yMd_forge 60 (0, (-1), 0, 0, 61, []) := sd_iconst (-1) 0 0 [] (da dk_Md_forge (k := 33) rfl)
theorem k_Md_forge_61 : am_Snd gG mt yMd_forge 61 (31, 0, 98, 0, 64, []) := sd_icmp_eq 0 98 [] (da dk_Md_forge (k := 34) rfl) (by decide)
theorem k_Md_forge_64 : am_Snd gG mt yMd_forge 64 (1, 0, 7, 0, 66, []) := sd_iload 0 7 0 [] (da dk_Md_forge (k := 35) rfl)
theorem k_Md_forge_66 : am_Snd gG mt yMd_forge 66 (30, 0, 95, 2, 69, []) := sd_if_lt 0 95 [] (da dk_Md_forge (k := 36) rfl) (by decide)
theorem k_Md_forge_69 : am_Snd gG mt yMd_forge 69 (1, 0, 7, 0, 71, []) := sd_iload 0 7 0 [] (da dk_Md_forge (k := 37) rfl)
theorem k_Md_forge_71 : am_Snd gG mt yMd_forge 71 (2, 0, 0, 0, 72, []) := sd_aload_n 0 0 0 [] rfl (da dk_Md_forge (k := 38) rfl)
theorem k_Md_forge_72 : am_Snd gG mt yMd_forge 72 (40, 0, 7, 14, 75, []) := sd_getf 0 7 14 [] (da dk_Md_forge (k := 39) rfl) rfl (by decide) hin_7 w_664
theorem k_Md_forge_75 : am_Snd gG mt yMd_forge 75 (31, 0, 95, 3, 78, []) := sd_icmp_ge 0 95 [] (da dk_Md_forge (k := 40) rfl) (by decide)
theorem k_Md_forge_78 : am_Snd gG mt yMd_forge 78 (2, 0, 0, 0, 79, []) := sd_aload_n 0 0 0 [] rfl (da dk_Md_forge (k := 41) rfl)
theorem k_Md_forge_79 : am_Snd gG mt yMd_forge 79 (40, 0, 7, 15, 82, []) := sd_getf 0 7 15 [] (da dk_Md_forge (k := 42) rfl) rfl (by decide) hin_7 w_665
theorem k_Md_forge_82 : am_Snd gG mt yMd_forge 82 (0, 400, 0, 0, 85, []) := sd_sipush 400 0 0 [] (da dk_Md_forge (k := 43) rfl) (by decide)
theorem k_Md_forge_85 : am_Snd gG mt yMd_forge 85 (1, 0, 8, 0, 87, []) := sd_iload 0 8 0 [] (da dk_Md_forge (k := 44) rfl)
theorem k_Md_forge_87 : am_Snd gG mt yMd_forge 87 (8, 0, 0, 0, 88, []) := sd_imul 0 0 0 [] (da dk_Md_forge (k := 45) rfl)
theorem k_Md_forge_88 : am_Snd gG mt yMd_forge 88 (1, 0, 7, 0, 90, []) := sd_iload 0 7 0 [] (da dk_Md_forge (k := 46) rfl)
theorem k_Md_forge_90 : am_Snd gG mt yMd_forge 90 (6, 0, 0, 0, 91, []) := sd_iadd 0 0 0 [] (da dk_Md_forge (k := 47) rfl)
theorem k_Md_forge_91 : am_Snd gG mt yMd_forge 91 (42, 0, 1, 0, 92, []) := sd_bald 0 1 0 [] (da dk_Md_forge (k := 48) rfl) rfl rfl
theorem k_Md_forge_92 : am_Snd gG mt yMd_forge 92 (30, 0, 98, 1, 95, []) := sd_if_ne 0 98 [] (da dk_Md_forge (k := 49) rfl) (by decide)
theorem k_Md_forge_95 : am_Snd gG mt yMd_forge 95 (0, (-2), 0, 0, 97, []) := sd_bipush (-2) 0 0 [] (da dk_Md_forge (k := 50) rfl) (by decide)
theorem k_Md_forge_97 : am_Snd gG mt yMd_forge 97 (71, 0, 0, 0, 98, []) := sd_iret 0 0 0 98 [] (da dk_Md_forge (k := 51) rfl) rfl
theorem k_Md_forge_98 : am_Snd gG mt yMd_forge 98 (2, 0, 0, 0, 99, []) := sd_aload_n 0 0 0 [] rfl (da dk_Md_forge (k := 52) rfl)
theorem k_Md_forge_99 : am_Snd gG mt yMd_forge 99 (40, 0, 7, 14, 102, []) := sd_getf 0 7 14 [] (da dk_Md_forge (k := 53) rfl) rfl (by decide) hin_7 w_664
theorem k_Md_forge_102 : am_Snd gG mt yMd_forge 102 (0, 400, 0, 0, 105, []) := sd_sipush 400 0 0 [] (da dk_Md_forge (k := 54) rfl) (by decide)
theorem k_Md_forge_105 : am_Snd gG mt yMd_forge 105 (31, 0, 111, 1, 108, []) := sd_icmp_ne 0 111 [] (da dk_Md_forge (k := 55) rfl) (by decide)
theorem k_Md_forge_108 : am_Snd gG mt yMd_forge 108 (0, (-3), 0, 0, 110, []) := sd_bipush (-3) 0 0 [] (da dk_Md_forge (k := 56) rfl) (by decide)
theorem k_Md_forge_110 : am_Snd gG mt yMd_forge 110 (71, 0, 0, 0, 111, []) := sd_iret 0 0 0 111 [] (da dk_Md_forge (k := 57) rfl) rfl
theorem k_Md_forge_111 : am_Snd gG mt yMd_forge 111 (2, 0, 0, 0, 112, []) := sd_aload_n 0 0 0 [] rfl (da dk_Md_forge (k := 58) rfl)
theorem k_Md_forge_112 : am_Snd gG mt yMd_forge 112 (40, 0, 7, 14, 115, []) := sd_getf 0 7 14 [] (da dk_Md_forge (k := 59) rfl) rfl (by decide) hin_7 w_664
theorem k_Md_forge_115 : am_Snd gG mt yMd_forge 115 (3, 0, 9, 0, 117, []) := sd_istore 0 9 0 [] (da dk_Md_forge (k := 60) rfl)
theorem k_Md_forge_117 : am_Snd gG mt yMd_forge 117 (2, 0, 0, 0, 118, []) := sd_aload_n 0 0 0 [] rfl (da dk_Md_forge (k := 61) rfl)
theorem k_Md_forge_118 : am_Snd gG mt yMd_forge 118 (1, 0, 1, 0, 119, []) := sd_iload_n 0 1 0 [] rfl (da dk_Md_forge (k := 62) rfl)
theorem k_Md_forge_119 : am_Snd gG mt yMd_forge 119 (1, 0, 2, 0, 120, []) := sd_iload_n 0 2 0 [] rfl (da dk_Md_forge (k := 63) rfl)
theorem k_Md_forge_120 : am_Snd gG mt yMd_forge 120 (1, 0, 3, 0, 121, []) := sd_iload_n 0 3 0 [] rfl (da dk_Md_forge (k := 64) rfl)
theorem k_Md_forge_121 : am_Snd gG mt yMd_forge 121 (1, 0, 4, 0, 123, []) := sd_iload 0 4 0 [] (da dk_Md_forge (k := 65) rfl)
theorem k_Md_forge_123 : am_Snd gG mt yMd_forge 123 (1, 0, 5, 0, 125, []) := sd_iload 0 5 0 [] (da dk_Md_forge (k := 66) rfl)
theorem k_Md_forge_125 : am_Snd gG mt yMd_forge 125 (61, 1, 96, 6, 128, [(0, 7)]) := sd_callV 1 96 6 7 mt_96 (da dk_Md_forge (k := 67) rfl) gG_ok rfl w_761 (List.forall_mem_cons.2 ⟨w_758, List.forall_mem_cons.2 ⟨w_760, List.forall_mem_cons.2 ⟨w_16, List.forall_mem_cons.2 ⟨w_53, fun _ h => absurd h List.not_mem_nil⟩⟩⟩⟩) hd_96 (by decide) rfl (Nat.le_of_ble_eq_true rfl) (Nat.le_of_ble_eq_true rfl)
theorem k_Md_forge_128 : am_Snd gG mt yMd_forge 128 (1, 0, 6, 0, 130, []) := sd_iload 0 6 0 [] (da dk_Md_forge (k := 68) rfl)
theorem k_Md_forge_130 : am_Snd gG mt yMd_forge 130 (30, 0, 152, 2, 133, []) := sd_if_lt 0 152 [] (da dk_Md_forge (k := 69) rfl) (by decide)
theorem k_Md_forge_133 : am_Snd gG mt yMd_forge 133 (2, 0, 0, 0, 134, []) := sd_aload_n 0 0 0 [] rfl (da dk_Md_forge (k := 70) rfl)
theorem k_Md_forge_134 : am_Snd gG mt yMd_forge 134 (40, 0, 7, 5, 137, []) := sd_getf 0 7 5 [] (da dk_Md_forge (k := 71) rfl) rfl (by decide) hin_7 w_655
theorem k_Md_forge_137 : am_Snd gG mt yMd_forge 137 (0, 4, 0, 0, 138, []) := sd_iconst 4 0 0 [] (da dk_Md_forge (k := 72) rfl)
theorem k_Md_forge_138 : am_Snd gG mt yMd_forge 138 (1, 0, 9, 0, 140, []) := sd_iload 0 9 0 [] (da dk_Md_forge (k := 73) rfl)
theorem k_Md_forge_140 : am_Snd gG mt yMd_forge 140 (8, 0, 0, 0, 141, []) := sd_imul 0 0 0 [] (da dk_Md_forge (k := 74) rfl)
theorem k_Md_forge_141 : am_Snd gG mt yMd_forge 141 (1, 0, 6, 0, 143, []) := sd_iload 0 6 0 [] (da dk_Md_forge (k := 75) rfl)
theorem k_Md_forge_143 : am_Snd gG mt yMd_forge 143 (46, 0, 0, 0, 144, []) := sd_iast 0 0 0 [] (da dk_Md_forge (k := 76) rfl) rfl rfl
theorem k_Md_forge_144 : am_Snd gG mt yMd_forge 144 (2, 0, 0, 0, 145, []) := sd_aload_n 0 0 0 [] rfl (da dk_Md_forge (k := 77) rfl)
theorem k_Md_forge_145 : am_Snd gG mt yMd_forge 145 (40, 0, 7, 6, 148, []) := sd_getf 0 7 6 [] (da dk_Md_forge (k := 78) rfl) rfl (by decide) hin_7 w_656
theorem k_Md_forge_148 : am_Snd gG mt yMd_forge 148 (1, 0, 9, 0, 150, []) := sd_iload 0 9 0 [] (da dk_Md_forge (k := 79) rfl)
theorem k_Md_forge_150 : am_Snd gG mt yMd_forge 150 (0, 1, 0, 0, 151, []) := sd_iconst 1 0 0 [] (da dk_Md_forge (k := 80) rfl)
theorem k_Md_forge_151 : am_Snd gG mt yMd_forge 151 (46, 0, 0, 0, 152, []) := sd_iast 0 0 0 [] (da dk_Md_forge (k := 81) rfl) rfl rfl
theorem k_Md_forge_152 : am_Snd gG mt yMd_forge 152 (1, 0, 7, 0, 154, []) := sd_iload 0 7 0 [] (da dk_Md_forge (k := 82) rfl)
theorem k_Md_forge_154 : am_Snd gG mt yMd_forge 154 (30, 0, 194, 2, 157, []) := sd_if_lt 0 194 [] (da dk_Md_forge (k := 83) rfl) (by decide)
theorem k_Md_forge_157 : am_Snd gG mt yMd_forge 157 (1, 0, 7, 0, 159, []) := sd_iload 0 7 0 [] (da dk_Md_forge (k := 84) rfl)
theorem k_Md_forge_159 : am_Snd gG mt yMd_forge 159 (1, 0, 6, 0, 161, []) := sd_iload 0 6 0 [] (da dk_Md_forge (k := 85) rfl)
theorem k_Md_forge_161 : am_Snd gG mt yMd_forge 161 (31, 0, 194, 0, 164, []) := sd_icmp_eq 0 194 [] (da dk_Md_forge (k := 86) rfl) (by decide)
theorem k_Md_forge_164 : am_Snd gG mt yMd_forge 164 (2, 0, 0, 0, 165, []) := sd_aload_n 0 0 0 [] rfl (da dk_Md_forge (k := 87) rfl)
theorem k_Md_forge_165 : am_Snd gG mt yMd_forge 165 (40, 0, 7, 5, 168, []) := sd_getf 0 7 5 [] (da dk_Md_forge (k := 88) rfl) rfl (by decide) hin_7 w_655
theorem k_Md_forge_168 : am_Snd gG mt yMd_forge 168 (0, 4, 0, 0, 169, []) := sd_iconst 4 0 0 [] (da dk_Md_forge (k := 89) rfl)
theorem k_Md_forge_169 : am_Snd gG mt yMd_forge 169 (1, 0, 9, 0, 171, []) := sd_iload 0 9 0 [] (da dk_Md_forge (k := 90) rfl)
theorem k_Md_forge_171 : am_Snd gG mt yMd_forge 171 (8, 0, 0, 0, 172, []) := sd_imul 0 0 0 [] (da dk_Md_forge (k := 91) rfl)
theorem k_Md_forge_172 : am_Snd gG mt yMd_forge 172 (2, 0, 0, 0, 173, []) := sd_aload_n 0 0 0 [] rfl (da dk_Md_forge (k := 92) rfl)
theorem k_Md_forge_173 : am_Snd gG mt yMd_forge 173 (40, 0, 7, 6, 176, []) := sd_getf 0 7 6 [] (da dk_Md_forge (k := 93) rfl) rfl (by decide) hin_7 w_656
theorem k_Md_forge_176 : am_Snd gG mt yMd_forge 176 (1, 0, 9, 0, 178, []) := sd_iload 0 9 0 [] (da dk_Md_forge (k := 94) rfl)
theorem k_Md_forge_178 : am_Snd gG mt yMd_forge 178 (42, 0, 0, 0, 179, []) := sd_iald 0 0 0 [] (da dk_Md_forge (k := 95) rfl) rfl rfl
theorem k_Md_forge_179 : am_Snd gG mt yMd_forge 179 (6, 0, 0, 0, 180, []) := sd_iadd 0 0 0 [] (da dk_Md_forge (k := 96) rfl)
theorem k_Md_forge_180 : am_Snd gG mt yMd_forge 180 (1, 0, 7, 0, 182, []) := sd_iload 0 7 0 [] (da dk_Md_forge (k := 97) rfl)
theorem k_Md_forge_182 : am_Snd gG mt yMd_forge 182 (46, 0, 0, 0, 183, []) := sd_iast 0 0 0 [] (da dk_Md_forge (k := 98) rfl) rfl rfl
theorem k_Md_forge_183 : am_Snd gG mt yMd_forge 183 (2, 0, 0, 0, 184, []) := sd_aload_n 0 0 0 [] rfl (da dk_Md_forge (k := 99) rfl)
theorem k_Md_forge_184 : am_Snd gG mt yMd_forge 184 (40, 0, 7, 6, 187, []) := sd_getf 0 7 6 [] (da dk_Md_forge (k := 100) rfl) rfl (by decide) hin_7 w_656
theorem k_Md_forge_187 : am_Snd gG mt yMd_forge 187 (1, 0, 9, 0, 189, []) := sd_iload 0 9 0 [] (da dk_Md_forge (k := 101) rfl)
theorem k_Md_forge_189 : am_Snd gG mt yMd_forge 189 (15, 0, 0, 0, 190, []) := sd_dup2 0 0 0 [] (da dk_Md_forge (k := 102) rfl)
theorem k_Md_forge_190 : am_Snd gG mt yMd_forge 190 (42, 0, 0, 0, 191, []) := sd_iald 0 0 0 [] (da dk_Md_forge (k := 103) rfl) rfl rfl
theorem k_Md_forge_191 : am_Snd gG mt yMd_forge 191 (0, 1, 0, 0, 192, []) := sd_iconst 1 0 0 [] (da dk_Md_forge (k := 104) rfl)
theorem k_Md_forge_192 : am_Snd gG mt yMd_forge 192 (6, 0, 0, 0, 193, []) := sd_iadd 0 0 0 [] (da dk_Md_forge (k := 105) rfl)
theorem k_Md_forge_193 : am_Snd gG mt yMd_forge 193 (46, 0, 0, 0, 194, []) := sd_iast 0 0 0 [] (da dk_Md_forge (k := 106) rfl) rfl rfl
theorem k_Md_forge_194 : am_Snd gG mt yMd_forge 194 (2, 0, 0, 0, 195, []) := sd_aload_n 0 0 0 [] rfl (da dk_Md_forge (k := 107) rfl)
theorem k_Md_forge_195 : am_Snd gG mt yMd_forge 195 (2, 0, 0, 0, 196, []) := sd_aload_n 0 0 0 [] rfl (da dk_Md_forge (k := 108) rfl)
theorem k_Md_forge_196 : am_Snd gG mt yMd_forge 196 (40, 0, 7, 6, 199, []) := sd_getf 0 7 6 [] (da dk_Md_forge (k := 109) rfl) rfl (by decide) hin_7 w_656
theorem k_Md_forge_199 : am_Snd gG mt yMd_forge 199 (1, 0, 9, 0, 201, []) := sd_iload 0 9 0 [] (da dk_Md_forge (k := 110) rfl)
theorem k_Md_forge_201 : am_Snd gG mt yMd_forge 201 (42, 0, 0, 0, 202, []) := sd_iald 0 0 0 [] (da dk_Md_forge (k := 111) rfl) rfl rfl
theorem k_Md_forge_202 : am_Snd gG mt yMd_forge 202 (41, 0, 7, 20, 205, []) := sd_putf 0 7 20 [] cTy_7 (da dk_Md_forge (k := 112) rfl) rfl (by decide) hin_7 cTyok_7 cNm_7 w_670 (Or.inl rfl) rfl
theorem k_Md_forge_205 : am_Snd gG mt yMd_forge 205 (0, 0, 0, 0, 206, []) := sd_iconst 0 0 0 [] (da dk_Md_forge (k := 113) rfl)
theorem k_Md_forge_206 : am_Snd gG mt yMd_forge 206 (3, 0, 10, 0, 208, []) := sd_istore 0 10 0 [] (da dk_Md_forge (k := 114) rfl)
theorem k_Md_forge_208 : am_Snd gG mt yMd_forge 208 (1, 0, 10, 0, 210, []) := sd_iload 0 10 0 [] (da dk_Md_forge (k := 115) rfl)
theorem k_Md_forge_210 : am_Snd gG mt yMd_forge 210 (2, 0, 0, 0, 211, []) := sd_aload_n 0 0 0 [] rfl (da dk_Md_forge (k := 116) rfl)
theorem k_Md_forge_211 : am_Snd gG mt yMd_forge 211 (40, 0, 7, 20, 214, []) := sd_getf 0 7 20 [] (da dk_Md_forge (k := 117) rfl) rfl (by decide) hin_7 w_670
theorem k_Md_forge_214 : am_Snd gG mt yMd_forge 214 (31, 0, 242, 3, 217, []) := sd_icmp_ge 0 242 [] (da dk_Md_forge (k := 118) rfl) (by decide)
theorem k_Md_forge_217 : am_Snd gG mt yMd_forge 217 (2, 0, 0, 0, 218, []) := sd_aload_n 0 0 0 [] rfl (da dk_Md_forge (k := 119) rfl)
theorem k_Md_forge_218 : am_Snd gG mt yMd_forge 218 (40, 0, 7, 19, 221, []) := sd_getf 0 7 19 [] (da dk_Md_forge (k := 120) rfl) rfl (by decide) hin_7 w_669
theorem k_Md_forge_221 : am_Snd gG mt yMd_forge 221 (1, 0, 10, 0, 223, []) := sd_iload 0 10 0 [] (da dk_Md_forge (k := 121) rfl)
theorem k_Md_forge_223 : am_Snd gG mt yMd_forge 223 (2, 0, 0, 0, 224, []) := sd_aload_n 0 0 0 [] rfl (da dk_Md_forge (k := 122) rfl)
theorem k_Md_forge_224 : am_Snd gG mt yMd_forge 224 (40, 0, 7, 5, 227, []) := sd_getf 0 7 5 [] (da dk_Md_forge (k := 123) rfl) rfl (by decide) hin_7 w_655
theorem k_Md_forge_227 : am_Snd gG mt yMd_forge 227 (0, 4, 0, 0, 228, []) := sd_iconst 4 0 0 [] (da dk_Md_forge (k := 124) rfl)
theorem k_Md_forge_228 : am_Snd gG mt yMd_forge 228 (1, 0, 9, 0, 230, []) := sd_iload 0 9 0 [] (da dk_Md_forge (k := 125) rfl)
theorem k_Md_forge_230 : am_Snd gG mt yMd_forge 230 (8, 0, 0, 0, 231, []) := sd_imul 0 0 0 [] (da dk_Md_forge (k := 126) rfl)
theorem k_Md_forge_231 : am_Snd gG mt yMd_forge 231 (1, 0, 10, 0, 233, []) := sd_iload 0 10 0 [] (da dk_Md_forge (k := 127) rfl)
theorem k_Md_forge_233 : am_Snd gG mt yMd_forge 233 (6, 0, 0, 0, 234, []) := sd_iadd 0 0 0 [] (da dk_Md_forge (k := 128) rfl)
theorem k_Md_forge_234 : am_Snd gG mt yMd_forge 234 (42, 0, 0, 0, 235, []) := sd_iald 0 0 0 [] (da dk_Md_forge (k := 129) rfl) rfl rfl
theorem k_Md_forge_235 : am_Snd gG mt yMd_forge 235 (46, 0, 0, 0, 236, []) := sd_iast 0 0 0 [] (da dk_Md_forge (k := 130) rfl) rfl rfl
theorem k_Md_forge_236 : am_Snd gG mt yMd_forge 236 (5, 1, 10, 0, 239, []) := sd_iinc 1 10 0 [] (da dk_Md_forge (k := 131) rfl)
theorem k_Md_forge_239 : am_Snd gG mt yMd_forge 239 (26, 0, 208, 0, 242, []) := sd_goto 0 208 0 242 [] (da dk_Md_forge (k := 132) rfl) (by decide)
theorem k_Md_forge_242 : am_Snd gG mt yMd_forge 242 (2, 0, 0, 0, 243, []) := sd_aload_n 0 0 0 [] rfl (da dk_Md_forge (k := 133) rfl)
theorem k_Md_forge_243 : am_Snd gG mt yMd_forge 243 (61, 2, 109, 1, 246, [(0, 7)]) := sd_callV 2 109 1 7 mt_109 (da dk_Md_forge (k := 134) rfl) gG_ok rfl w_813 (List.forall_mem_cons.2 ⟨w_810, List.forall_mem_cons.2 ⟨w_812, List.forall_mem_cons.2 ⟨w_29, List.forall_mem_cons.2 ⟨w_53, fun _ h => absurd h List.not_mem_nil⟩⟩⟩⟩) hd_109 (by decide) rfl (Nat.le_of_ble_eq_true rfl) (Nat.le_of_ble_eq_true rfl)
theorem k_Md_forge_246 : am_Snd gG mt yMd_forge 246 (2, 0, 0, 0, 247, []) := sd_aload_n 0 0 0 [] rfl (da dk_Md_forge (k := 135) rfl)
theorem k_Md_forge_247 : am_Snd gG mt yMd_forge 247 (2, 0, 0, 0, 248, []) := sd_aload_n 0 0 0 [] rfl (da dk_Md_forge (k := 136) rfl)
theorem k_Md_forge_248 : am_Snd gG mt yMd_forge 248 (40, 0, 7, 21, 251, []) := sd_getf 0 7 21 [] (da dk_Md_forge (k := 137) rfl) rfl (by decide) hin_7 w_671
theorem k_Md_forge_251 : am_Snd gG mt yMd_forge 251 (0, 0, 0, 0, 252, []) := sd_iconst 0 0 0 [] (da dk_Md_forge (k := 138) rfl)
theorem k_Md_forge_252 : am_Snd gG mt yMd_forge 252 (61, 2, 98, 3, 255, [(0, 7)]) := sd_callV 2 98 3 7 mt_98 (da dk_Md_forge (k := 139) rfl) gG_ok rfl w_769 (List.forall_mem_cons.2 ⟨w_766, List.forall_mem_cons.2 ⟨w_768, List.forall_mem_cons.2 ⟨w_18, List.forall_mem_cons.2 ⟨w_53, fun _ h => absurd h List.not_mem_nil⟩⟩⟩⟩) hd_98 (by decide) rfl (Nat.le_of_ble_eq_true rfl) (Nat.le_of_ble_eq_true rfl)
theorem k_Md_forge_255 : am_Snd gG mt yMd_forge 255 (2, 0, 0, 0, 256, []) := sd_aload_n 0 0 0 [] rfl (da dk_Md_forge (k := 140) rfl)
theorem k_Md_forge_256 : am_Snd gG mt yMd_forge 256 (61, 4, 108, 1, 259, [(0, 7)]) := sd_callV 4 108 1 7 mt_108 (da dk_Md_forge (k := 141) rfl) gG_ok rfl w_809 (List.forall_mem_cons.2 ⟨w_806, List.forall_mem_cons.2 ⟨w_808, List.forall_mem_cons.2 ⟨w_28, List.forall_mem_cons.2 ⟨w_53, fun _ h => absurd h List.not_mem_nil⟩⟩⟩⟩) hd_108 (by decide) rfl (Nat.le_of_ble_eq_true rfl) (Nat.le_of_ble_eq_true rfl)
theorem k_Md_forge_259 : am_Snd gG mt yMd_forge 259 (2, 0, 0, 0, 260, []) := sd_aload_n 0 0 0 [] rfl (da dk_Md_forge (k := 142) rfl)
theorem k_Md_forge_260 : am_Snd gG mt yMd_forge 260 (40, 0, 7, 15, 263, []) := sd_getf 0 7 15 [] (da dk_Md_forge (k := 143) rfl) rfl (by decide) hin_7 w_665
theorem k_Md_forge_263 : am_Snd gG mt yMd_forge 263 (0, 400, 0, 0, 266, []) := sd_sipush 400 0 0 [] (da dk_Md_forge (k := 144) rfl) (by decide)
theorem k_Md_forge_266 : am_Snd gG mt yMd_forge 266 (1, 0, 8, 0, 268, []) := sd_iload 0 8 0 [] (da dk_Md_forge (k := 145) rfl)
theorem k_Md_forge_268 : am_Snd gG mt yMd_forge 268 (8, 0, 0, 0, 269, []) := sd_imul 0 0 0 [] (da dk_Md_forge (k := 146) rfl)
theorem k_Md_forge_269 : am_Snd gG mt yMd_forge 269 (1, 0, 9, 0, 271, []) := sd_iload 0 9 0 [] (da dk_Md_forge (k := 147) rfl)
theorem k_Md_forge_271 : am_Snd gG mt yMd_forge 271 (6, 0, 0, 0, 272, []) := sd_iadd 0 0 0 [] (da dk_Md_forge (k := 148) rfl)
theorem k_Md_forge_272 : am_Snd gG mt yMd_forge 272 (0, 1, 0, 0, 273, []) := sd_iconst 1 0 0 [] (da dk_Md_forge (k := 149) rfl)
theorem k_Md_forge_273 : am_Snd gG mt yMd_forge 273 (49, 0, 1, 0, 274, []) := sd_bast 0 1 0 [] (da dk_Md_forge (k := 150) rfl) rfl rfl
theorem k_Md_forge_274 : am_Snd gG mt yMd_forge 274 (2, 0, 0, 0, 275, []) := sd_aload_n 0 0 0 [] rfl (da dk_Md_forge (k := 151) rfl)
theorem k_Md_forge_275 : am_Snd gG mt yMd_forge 275 (1, 0, 8, 0, 277, []) := sd_iload 0 8 0 [] (da dk_Md_forge (k := 152) rfl)
theorem k_Md_forge_277 : am_Snd gG mt yMd_forge 277 (61, 1, 124, 2, 280, [(0, 7)]) := sd_callV 1 124 2 7 mt_124 (da dk_Md_forge (k := 153) rfl) gG_ok rfl w_873 (List.forall_mem_cons.2 ⟨w_870, List.forall_mem_cons.2 ⟨w_872, List.forall_mem_cons.2 ⟨w_42, List.forall_mem_cons.2 ⟨w_53, fun _ h => absurd h List.not_mem_nil⟩⟩⟩⟩) hd_124 (by decide) rfl (Nat.le_of_ble_eq_true rfl) (Nat.le_of_ble_eq_true rfl)
theorem k_Md_forge_280 : am_Snd gG mt yMd_forge 280 (1, 0, 9, 0, 282, []) := sd_iload 0 9 0 [] (da dk_Md_forge (k := 154) rfl)
theorem k_Md_forge_282 : am_Snd gG mt yMd_forge 282 (71, 0, 0, 0, 283, []) := sd_iret 0 0 0 283 [] (da dk_Md_forge (k := 155) rfl) rfl
set_option maxRecDepth 20000 in
theorem ks_Md_forge : ∀ q ∈ tMd_forge, am_Snd gG mt yMd_forge q.1 q.2 := List.forall_mem_cons.2 ⟨k_Md_forge_0, List.forall_mem_cons.2 ⟨k_Md_forge_1, List.forall_mem_cons.2 ⟨k_Md_forge_2, List.forall_mem_cons.2 ⟨k_Md_forge_3, List.forall_mem_cons.2 ⟨k_Md_forge_5, List.forall_mem_cons.2 ⟨k_Md_forge_8, List.forall_mem_cons.2 ⟨k_Md_forge_11, List.forall_mem_cons.2 ⟨k_Md_forge_12, List.forall_mem_cons.2 ⟨k_Md_forge_13, List.forall_mem_cons.2 ⟨k_Md_forge_14, List.forall_mem_cons.2 ⟨k_Md_forge_15, List.forall_mem_cons.2 ⟨k_Md_forge_16, List.forall_mem_cons.2 ⟨k_Md_forge_18, List.forall_mem_cons.2 ⟨k_Md_forge_20, List.forall_mem_cons.2 ⟨k_Md_forge_21, List.forall_mem_cons.2 ⟨k_Md_forge_24, List.forall_mem_cons.2 ⟨k_Md_forge_26, List.forall_mem_cons.2 ⟨k_Md_forge_29, List.forall_mem_cons.2 ⟨k_Md_forge_31, List.forall_mem_cons.2 ⟨k_Md_forge_32, List.forall_mem_cons.2 ⟨k_Md_forge_35, List.forall_mem_cons.2 ⟨k_Md_forge_38, List.forall_mem_cons.2 ⟨k_Md_forge_39, List.forall_mem_cons.2 ⟨k_Md_forge_42, List.forall_mem_cons.2 ⟨k_Md_forge_45, List.forall_mem_cons.2 ⟨k_Md_forge_47, List.forall_mem_cons.2 ⟨k_Md_forge_48, List.forall_mem_cons.2 ⟨k_Md_forge_50, List.forall_mem_cons.2 ⟨k_Md_forge_51, List.forall_mem_cons.2 ⟨k_Md_forge_52, List.forall_mem_cons.2 ⟨k_Md_forge_55, List.forall_mem_cons.2 ⟨k_Md_forge_57, List.forall_mem_cons.2 ⟨k_Md_forge_58, List.forall_mem_cons.2 ⟨k_Md_forge_60, List.forall_mem_cons.2 ⟨k_Md_forge_61, List.forall_mem_cons.2 ⟨k_Md_forge_64, List.forall_mem_cons.2 ⟨k_Md_forge_66, List.forall_mem_cons.2 ⟨k_Md_forge_69, List.forall_mem_cons.2 ⟨k_Md_forge_71, List.forall_mem_cons.2 ⟨k_Md_forge_72, List.forall_mem_cons.2 ⟨k_Md_forge_75, List.forall_mem_cons.2 ⟨k_Md_forge_78, List.forall_mem_cons.2 ⟨k_Md_forge_79, List.forall_mem_cons.2 ⟨k_Md_forge_82, List.forall_mem_cons.2 ⟨k_Md_forge_85, List.forall_mem_cons.2 ⟨k_Md_forge_87, List.forall_mem_cons.2 ⟨k_Md_forge_88, List.forall_mem_cons.2 ⟨k_Md_forge_90, List.forall_mem_cons.2 ⟨k_Md_forge_91, List.forall_mem_cons.2 ⟨k_Md_forge_92, List.forall_mem_cons.2 ⟨k_Md_forge_95, List.forall_mem_cons.2 ⟨k_Md_forge_97, List.forall_mem_cons.2 ⟨k_Md_forge_98, List.forall_mem_cons.2 ⟨k_Md_forge_99, List.forall_mem_cons.2 ⟨k_Md_forge_102, List.forall_mem_cons.2 ⟨k_Md_forge_105, List.forall_mem_cons.2 ⟨k_Md_forge_108, List.forall_mem_cons.2 ⟨k_Md_forge_110, List.forall_mem_cons.2 ⟨k_Md_forge_111, List.forall_mem_cons.2 ⟨k_Md_forge_112, List.forall_mem_cons.2 ⟨k_Md_forge_115, List.forall_mem_cons.2 ⟨k_Md_forge_117, List.forall_mem_cons.2 ⟨k_Md_forge_118, List.forall_mem_cons.2 ⟨k_Md_forge_119, List.forall_mem_cons.2 ⟨k_Md_forge_120, List.forall_mem_cons.2 ⟨k_Md_forge_121, List.forall_mem_cons.2 ⟨k_Md_forge_123, List.forall_mem_cons.2 ⟨k_Md_forge_125, List.forall_mem_cons.2 ⟨k_Md_forge_128, List.forall_mem_cons.2 ⟨k_Md_forge_130, List.forall_mem_cons.2 ⟨k_Md_forge_133, List.forall_mem_cons.2 ⟨k_Md_forge_134, List.forall_mem_cons.2 ⟨k_Md_forge_137, List.forall_mem_cons.2 ⟨k_Md_forge_138, List.forall_mem_cons.2 ⟨k_Md_forge_140, List.forall_mem_cons.2 ⟨k_Md_forge_141, List.forall_mem_cons.2 ⟨k_Md_forge_143, List.forall_mem_cons.2 ⟨k_Md_forge_144, List.forall_mem_cons.2 ⟨k_Md_forge_145, List.forall_mem_cons.2 ⟨k_Md_forge_148, List.forall_mem_cons.2 ⟨k_Md_forge_150, List.forall_mem_cons.2 ⟨k_Md_forge_151, List.forall_mem_cons.2 ⟨k_Md_forge_152, List.forall_mem_cons.2 ⟨k_Md_forge_154, List.forall_mem_cons.2 ⟨k_Md_forge_157, List.forall_mem_cons.2 ⟨k_Md_forge_159, List.forall_mem_cons.2 ⟨k_Md_forge_161, List.forall_mem_cons.2 ⟨k_Md_forge_164, List.forall_mem_cons.2 ⟨k_Md_forge_165, List.forall_mem_cons.2 ⟨k_Md_forge_168, List.forall_mem_cons.2 ⟨k_Md_forge_169, List.forall_mem_cons.2 ⟨k_Md_forge_171, List.forall_mem_cons.2 ⟨k_Md_forge_172, List.forall_mem_cons.2 ⟨k_Md_forge_173, List.forall_mem_cons.2 ⟨k_Md_forge_176, List.forall_mem_cons.2 ⟨k_Md_forge_178, List.forall_mem_cons.2 ⟨k_Md_forge_179, List.forall_mem_cons.2 ⟨k_Md_forge_180, List.forall_mem_cons.2 ⟨k_Md_forge_182, List.forall_mem_cons.2 ⟨k_Md_forge_183, List.forall_mem_cons.2 ⟨k_Md_forge_184, List.forall_mem_cons.2 ⟨k_Md_forge_187, List.forall_mem_cons.2 ⟨k_Md_forge_189, List.forall_mem_cons.2 ⟨k_Md_forge_190, List.forall_mem_cons.2 ⟨k_Md_forge_191, List.forall_mem_cons.2 ⟨k_Md_forge_192, List.forall_mem_cons.2 ⟨k_Md_forge_193, List.forall_mem_cons.2 ⟨k_Md_forge_194, List.forall_mem_cons.2 ⟨k_Md_forge_195, List.forall_mem_cons.2 ⟨k_Md_forge_196, List.forall_mem_cons.2 ⟨k_Md_forge_199, List.forall_mem_cons.2 ⟨k_Md_forge_201, List.forall_mem_cons.2 ⟨k_Md_forge_202, List.forall_mem_cons.2 ⟨k_Md_forge_205, List.forall_mem_cons.2 ⟨k_Md_forge_206, List.forall_mem_cons.2 ⟨k_Md_forge_208, List.forall_mem_cons.2 ⟨k_Md_forge_210, List.forall_mem_cons.2 ⟨k_Md_forge_211, List.forall_mem_cons.2 ⟨k_Md_forge_214, List.forall_mem_cons.2 ⟨k_Md_forge_217, List.forall_mem_cons.2 ⟨k_Md_forge_218, List.forall_mem_cons.2 ⟨k_Md_forge_221, List.forall_mem_cons.2 ⟨k_Md_forge_223, List.forall_mem_cons.2 ⟨k_Md_forge_224, List.forall_mem_cons.2 ⟨k_Md_forge_227, List.forall_mem_cons.2 ⟨k_Md_forge_228, List.forall_mem_cons.2 ⟨k_Md_forge_230, List.forall_mem_cons.2 ⟨k_Md_forge_231, List.forall_mem_cons.2 ⟨k_Md_forge_233, List.forall_mem_cons.2 ⟨k_Md_forge_234, List.forall_mem_cons.2 ⟨k_Md_forge_235, List.forall_mem_cons.2 ⟨k_Md_forge_236, List.forall_mem_cons.2 ⟨k_Md_forge_239, List.forall_mem_cons.2 ⟨k_Md_forge_242, List.forall_mem_cons.2 ⟨k_Md_forge_243, List.forall_mem_cons.2 ⟨k_Md_forge_246, List.forall_mem_cons.2 ⟨k_Md_forge_247, List.forall_mem_cons.2 ⟨k_Md_forge_248, List.forall_mem_cons.2 ⟨k_Md_forge_251, List.forall_mem_cons.2 ⟨k_Md_forge_252, List.forall_mem_cons.2 ⟨k_Md_forge_255, List.forall_mem_cons.2 ⟨k_Md_forge_256, List.forall_mem_cons.2 ⟨k_Md_forge_259, List.forall_mem_cons.2 ⟨k_Md_forge_260, List.forall_mem_cons.2 ⟨k_Md_forge_263, List.forall_mem_cons.2 ⟨k_Md_forge_266, List.forall_mem_cons.2 ⟨k_Md_forge_268, List.forall_mem_cons.2 ⟨k_Md_forge_269, List.forall_mem_cons.2 ⟨k_Md_forge_271, List.forall_mem_cons.2 ⟨k_Md_forge_272, List.forall_mem_cons.2 ⟨k_Md_forge_273, List.forall_mem_cons.2 ⟨k_Md_forge_274, List.forall_mem_cons.2 ⟨k_Md_forge_275, List.forall_mem_cons.2 ⟨k_Md_forge_277, List.forall_mem_cons.2 ⟨k_Md_forge_280, List.forall_mem_cons.2 ⟨k_Md_forge_282, fun _ h => absurd h List.not_mem_nil⟩⟩⟩⟩⟩⟩⟩⟩⟩⟩⟩⟩⟩⟩⟩⟩⟩⟩⟩⟩⟩⟩⟩⟩⟩⟩⟩⟩⟩⟩⟩⟩⟩⟩⟩⟩⟩⟩⟩⟩⟩⟩⟩⟩⟩⟩⟩⟩⟩⟩⟩⟩⟩⟩⟩⟩⟩⟩⟩⟩⟩⟩⟩⟩⟩⟩⟩⟩⟩⟩⟩⟩⟩⟩⟩⟩⟩⟩⟩⟩⟩⟩⟩⟩⟩⟩⟩⟩⟩⟩⟩⟩⟩⟩⟩⟩⟩⟩⟩⟩⟩⟩⟩⟩⟩⟩⟩⟩⟩⟩⟩⟩⟩⟩⟩⟩⟩⟩⟩⟩⟩⟩⟩⟩⟩⟩⟩⟩⟩⟩⟩⟩⟩⟩⟩⟩⟩⟩⟩⟩⟩⟩⟩⟩⟩⟩⟩⟩⟩⟩⟩⟩⟩⟩⟩⟩
def dl_Md_deliver : List (Nat × Instr × Nat) := [(0, .iload_n 1, 1), (1, .invokestatic 218, 3), (4, .ifCond .ne 5, 3), (7, .iconst (-1), 1), (8, .ireturn, 1), (9, .aload_n 0, 1), (10, .iload_n 2, 1), (11, .invokevirtual 221, 3), (14, .ifCond .ne 6, 3), (17, .bipush (-2), 2), (19, .ireturn, 1), (20, .sipush 400, 3), (23, .iload_n 1, 1), (24, .imul, 1), (25, .iload_n 2, 1), (26, .iadd, 1), (27, .istore_n 3, 1), (28, .aload_n 0, 1), (29, .getfield 54, 3), (32, .iload_n 3, 1), (33, .baload, 1), (34, .ifCond .eq 6, 3), (37, .bipush (-5), 2), (39, .ireturn, 1), (40, .aload_n 0, 1), (41, .getfield 57, 3), (44, .iload_n 3, 1), (45, .baload, 1), (46, .ifCond .eq 6, 3), (49, .bipush (-6), 2), (51, .ireturn, 1), (52, .aload_n 0, 1), (53, .iload_n 1, 1), (54, .iload_n 2, 1), (55, .invokevirtual 215, 3), (58, .ifCond .ne 37, 3), (61, .aload_n 0, 1), (62, .getfield 60, 3), (65, .iload_n 1, 1), (66, .iaload, 1), (67, .bipush 32, 2), (69, .if_icmp .ne 6, 3), (72, .bipush (-3), 2), (74, .ireturn, 1), (75, .aload_n 0, 1), (76, .getfield 57, 3), (79, .iload_n 3, 1), (80, .iconst 1, 1), (81, .bastore, 1), (82, .aload_n 0, 1), (83, .getfield 60, 3), (86, .iload_n 1, 1), (87, .dup2, 1), (88, .iaload, 1), (89, .iconst 1, 1), (90, .iadd, 1), (91, .iastore, 1), (92, .bipush (-6), 2), (94, .ireturn, 1), (95, .aload_n 0, 1), (96, .iload_n 1, 1), (97, .iload_n 2, 1), (98, .invokevirtual 224, 3), (101, .istore 4, 2), (103, .aload_n 0, 1), (104, .iload_n 1, 1), (105, .invokevirtual 212, 3), (108, .iload 4, 2), (110, .ireturn, 1)]
set_option maxRecDepth 20000 in
theorem dk_Md_deliver : (dl_Md_deliver.all fun q => decide (decode prog_10_method_38_code q.1 = .ok (q.2.1, q.2.2))) = true := by decide +kernel
theorem k_Md_deliver_0 : am_Snd gG mt yMd_deliver 0 (1, 0, 1, 0, 1, []) := sd_iload_n 0 1 0 [] rfl (da dk_Md_deliver (k := 0) rfl)
theorem k_Md_deliver_1 : am_Snd gG mt yMd_deliver 1 (60, 0, 127, 1, 4, []) := sd_callS 0 127 1 [] mt_127 (da dk_Md_deliver (k := 1) rfl) gG_ok w_884 (List.forall_mem_cons.2 ⟨w_882, List.forall_mem_cons.2 ⟨w_883, List.forall_mem_cons.2 ⟨w_53, fun _ h => absurd h List.not_mem_nil⟩⟩⟩) hd_127 rfl (Nat.le_of_ble_eq_true rfl) (Nat.le_of_ble_eq_true rfl)
theorem k_Md_deliver_4 : am_Snd gG mt yMd_deliver 4 (30, 0, 9, 1, 7, []) := sd_if_ne 0 9 [] (da dk_Md_deliver (k := 2) rfl) (by decide)
theorem k_Md_deliver_7 : am_Snd gG mt yMd_deliver 7 (0, (-1), 0, 0, 8, []) := sd_iconst (-1) 0 0 [] (da dk_Md_deliver (k := 3) rfl)
theorem k_Md_deliver_8 : am_Snd gG mt yMd_deliver 8 (71, 0, 0, 0, 9, []) := sd_iret 0 0 0 9 [] (da dk_Md_deliver (k := 4) rfl) rfl
theorem k_Md_deliver_9 : am_Snd gG mt yMd_deliver 9 (2, 0, 0, 0, 10, []) := sd_aload_n 0 0 0 [] rfl (da dk_Md_deliver (k := 5) rfl)
theorem k_Md_deliver_10 : am_Snd gG mt yMd_deliver 10 (1, 0, 2, 0, 11, []) := sd_iload_n 0 2 0 [] rfl (da dk_Md_deliver (k := 6) rfl)
theorem k_Md_deliver_11 : am_Snd gG mt yMd_deliver 11 (61, 0, 128, 2, 14, [(0, 7)]) := sd_callV 0 128 2 7 mt_128 (da dk_Md_deliver (k := 7) rfl) gG_ok rfl w_888 (List.forall_mem_cons.2 ⟨w_885, List.forall_mem_cons.2 ⟨w_887, List.forall_mem_cons.2 ⟨w_43, List.forall_mem_cons.2 ⟨w_53, fun _ h => absurd h List.not_mem_nil⟩⟩⟩⟩) hd_128 (by decide) rfl (Nat.le_of_ble_eq_true rfl) (Nat.le_of_ble_eq_true rfl)
theorem k_Md_deliver_14 : am_Snd gG mt yMd_deliver 14 (30, 0, 20, 1, 17, []) := sd_if_ne 0 20 [] (da dk_Md_deliver (k := 8) rfl) (by decide)
theorem k_Md_deliver_17 : am_Snd gG mt yMd_deliver 17 (0, (-2), 0, 0, 19, []) := sd_bipush (-2) 0 0 [] (da dk_Md_deliver (k := 9) rfl) (by decide)
theorem k_Md_deliver_19 : am_Snd gG mt yMd_deliver 19 (71, 0, 0, 0, 20, []) := sd_iret 0 0 0 20 [] (da dk_Md_deliver (k := 10) rfl) rfl
theorem k_Md_deliver_20 : am_Snd gG mt yMd_deliver 20 (0, 400, 0, 0, 23, []) := sd_sipush 400 0 0 [] (da dk_Md_deliver (k := 11) rfl) (by decide)
theorem k_Md_deliver_23 : am_Snd gG mt yMd_deliver 23 (1, 0, 1, 0, 24, []) := sd_iload_n 0 1 0 [] rfl (da dk_Md_deliver (k := 12) rfl)
theorem k_Md_deliver_24 : am_Snd gG mt yMd_deliver 24 (8, 0, 0, 0, 25, []) := sd_imul 0 0 0 [] (da dk_Md_deliver (k := 13) rfl)
theorem k_Md_deliver_25 : am_Snd gG mt yMd_deliver 25 (1, 0, 2, 0, 26, []) := sd_iload_n 0 2 0 [] rfl (da dk_Md_deliver (k := 14) rfl)
theorem k_Md_deliver_26 : am_Snd gG mt yMd_deliver 26 (6, 0, 0, 0, 27, []) := sd_iadd 0 0 0 [] (da dk_Md_deliver (k := 15) rfl)
theorem k_Md_deliver_27 : am_Snd gG mt yMd_deliver 27 (3, 0, 3, 0, 28, []) := sd_istore_n 0 3 0 [] rfl (da dk_Md_deliver (k := 16) rfl)
theorem k_Md_deliver_28 : am_Snd gG mt yMd_deliver 28 (2, 0, 0, 0, 29, []) := sd_aload_n 0 0 0 [] rfl (da dk_Md_deliver (k := 17) rfl)
theorem k_Md_deliver_29 : am_Snd gG mt yMd_deliver 29 (40, 0, 7, 15, 32, []) := sd_getf 0 7 15 [] (da dk_Md_deliver (k := 18) rfl) rfl (by decide) hin_7 w_665
theorem k_Md_deliver_32 : am_Snd gG mt yMd_deliver 32 (1, 0, 3, 0, 33, []) := sd_iload_n 0 3 0 [] rfl (da dk_Md_deliver (k := 19) rfl)
theorem k_Md_deliver_33 : am_Snd gG mt yMd_deliver 33 (42, 0, 1, 0, 34, []) := sd_bald 0 1 0 [] (da dk_Md_deliver (k := 20) rfl) rfl rfl
theorem k_Md_deliver_34 : am_Snd gG mt yMd_deliver 34 (30, 0, 40, 0, 37, []) := sd_if_eq 0 40 [] (da dk_Md_deliver (k := 21) rfl) (by decide)
theorem k_Md_deliver_37 : am_Snd gG mt yMd_deliver 37 (0, (-5), 0, 0, 39, []) := sd_bipush (-5) 0 0 [] (da dk_Md_deliver (k := 22) rfl) (by decide)
theorem k_Md_deliver_39 : am_Snd gG mt yMd_deliver 39 (71, 0, 0, 0, 40, []) := sd_iret 0 0 0 40 [] (da dk_Md_deliver (k := 23) rfl) rfl
theorem k_Md_deliver_40 : am_Snd gG mt yMd_deliver 40 (2, 0, 0, 0, 41, []) := sd_aload_n 0 0 0 [] rfl (da dk_Md_deliver (k := 24) rfl)
theorem k_Md_deliver_41 : am_Snd gG mt yMd_deliver 41 (40, 0, 7, 16, 44, []) := sd_getf 0 7 16 [] (da dk_Md_deliver (k := 25) rfl) rfl (by decide) hin_7 w_666
theorem k_Md_deliver_44 : am_Snd gG mt yMd_deliver 44 (1, 0, 3, 0, 45, []) := sd_iload_n 0 3 0 [] rfl (da dk_Md_deliver (k := 26) rfl)
theorem k_Md_deliver_45 : am_Snd gG mt yMd_deliver 45 (42, 0, 1, 0, 46, []) := sd_bald 0 1 0 [] (da dk_Md_deliver (k := 27) rfl) rfl rfl
theorem k_Md_deliver_46 : am_Snd gG mt yMd_deliver 46 (30, 0, 52, 0, 49, []) := sd_if_eq 0 52 [] (da dk_Md_deliver (k := 28) rfl) (by decide)
theorem k_Md_deliver_49 : am_Snd gG mt yMd_deliver 49 (0, (-6), 0, 0, 51, []) := sd_bipush (-6) 0 0 [] (da dk_Md_deliver (k := 29) rfl) (by decide)
theorem k_Md_deliver_51 : am_Snd gG mt yMd_deliver 51 (71, 0, 0, 0, 52, []) := sd_iret 0 0 0 52 [] (da dk_Md_deliver (k := 30) rfl) rfl
theorem k_Md_deliver_52 : am_Snd gG mt yMd_deliver 52 (2, 0, 0, 0, 53, []) := sd_aload_n 0 0 0 [] rfl (da dk_Md_deliver (k := 31) rfl)
theorem k_Md_deliver_53 : am_Snd gG mt yMd_deliver 53 (1, 0, 1, 0, 54, []) := sd_iload_n 0 1 0 [] rfl (da dk_Md_deliver (k := 32) rfl)
theorem k_Md_deliver_54 : am_Snd gG mt yMd_deliver 54 (1, 0, 2, 0, 55, []) := sd_iload_n 0 2 0 [] rfl (da dk_Md_deliver (k := 33) rfl)
theorem k_Md_deliver_55 : am_Snd gG mt yMd_deliver 55 (61, 1, 129, 3, 58, [(0, 7)]) := sd_callV 1 129 3 7 mt_129 (da dk_Md_deliver (k := 34) rfl) gG_ok rfl w_892 (List.forall_mem_cons.2 ⟨w_889, List.forall_mem_cons.2 ⟨w_891, List.forall_mem_cons.2 ⟨w_44, List.forall_mem_cons.2 ⟨w_53, fun _ h => absurd h List.not_mem_nil⟩⟩⟩⟩) hd_129 (by decide) rfl (Nat.le_of_ble_eq_true rfl) (Nat.le_of_ble_eq_true rfl)
theorem k_Md_deliver_58 : am_Snd gG mt yMd_deliver 58 (30, 0, 95, 1, 61, []) := sd_if_ne 0 95 [] (da dk_Md_deliver (k := 35) rfl) (by decide)
theorem k_Md_deliver_61 : am_Snd gG mt yMd_deliver 61 (2, 0, 0, 0, 62, []) := sd_aload_n 0 0 0 [] rfl (da dk_Md_deliver (k := 36) rfl)
theorem k_Md_deliver_62 : am_Snd gG mt yMd_deliver 62 (40, 0, 7, 17, 65, []) := sd_getf 0 7 17 [] (da dk_Md_deliver (k := 37) rfl) rfl (by decide) hin_7 w_667
theorem k_Md_deliver_65 : am_Snd gG mt yMd_deliver 65 (1, 0, 1, 0, 66, []) := sd_iload_n 0 1 0 [] rfl (da dk_Md_deliver (k := 38) rfl)
theorem k_Md_deliver_66 : am_Snd gG mt yMd_deliver 66 (42, 0, 0, 0, 67, []) := sd_iald 0 0 0 [] (da dk_Md_deliver (k := 39) rfl) rfl rfl
theorem k_Md_deliver_67 : am_Snd gG mt yMd_deliver 67 (0, 32, 0, 0, 69, []) := sd_bipush 32 0 0 [] (da dk_Md_deliver (k := 40) rfl) (by decide)
theorem k_Md_deliver_69 : am_Snd gG mt yMd_deliver 69 (31, 0, 75, 1, 72, []) := sd_icmp_ne 0 75 [] (da dk_Md_deliver (k := 41) rfl) (by decide)
theorem k_Md_deliver_72 : am_Snd gG mt yMd_deliver 72 (0, (-3), 0, 0, 74, []) := sd_bipush (-3) 0 0 [] (da dk_Md_deliver (k := 42) rfl) (by decide)
theorem k_Md_deliver_74 : am_Snd gG mt yMd_deliver 74 (71, 0, 0, 0, 75, []) := sd_iret 0 0 0 75 [] (da dk_Md_deliver (k := 43) rfl) rfl
theorem k_Md_deliver_75 : am_Snd gG mt yMd_deliver 75 (2, 0, 0, 0, 76, []) := sd_aload_n 0 0 0 [] rfl (da dk_Md_deliver (k := 44) rfl)
theorem k_Md_deliver_76 : am_Snd gG mt yMd_deliver 76 (40, 0, 7, 16, 79, []) := sd_getf 0 7 16 [] (da dk_Md_deliver (k := 45) rfl) rfl (by decide) hin_7 w_666
theorem k_Md_deliver_79 : am_Snd gG mt yMd_deliver 79 (1, 0, 3, 0, 80, []) := sd_iload_n 0 3 0 [] rfl (da dk_Md_deliver (k := 46) rfl)
theorem k_Md_deliver_80 : am_Snd gG mt yMd_deliver 80 (0, 1, 0, 0, 81, []) := sd_iconst 1 0 0 [] (da dk_Md_deliver (k := 47) rfl)
theorem k_Md_deliver_81 : am_Snd gG mt yMd_deliver 81 (49, 0, 1, 0, 82, []) := sd_bast 0 1 0 [] (da dk_Md_deliver (k := 48) rfl) rfl rfl
theorem k_Md_deliver_82 : am_Snd gG mt yMd_deliver 82 (2, 0, 0, 0, 83, []) := sd_aload_n 0 0 0 [] rfl (da dk_Md_deliver (k := 49) rfl)
theorem k_Md_deliver_83 : am_Snd gG mt yMd_deliver 83 (40, 0, 7, 17, 86, []) := sd_getf 0 7 17 [] (da dk_Md_deliver (k := 50) rfl) rfl (by decide) hin_7 w_667
theorem k_Md_deliver_86 : am_Snd gG mt yMd_deliver 86 (1, 0, 1, 0, 87, []) := sd_iload_n 0 1 0 [] rfl (da dk_Md_deliver (k := 51) rfl)
theorem k_Md_deliver_87 : am_Snd gG mt yMd_deliver 87 (15, 0, 0, 0, 88, []) := sd_dup2 0 0 0 [] (da dk_Md_deliver (k := 52) rfl)
theorem k_Md_deliver_88 : am_Snd gG mt yMd_deliver 88 (42, 0, 0, 0, 89, []) := sd_iald 0 0 0 [] (da dk_Md_deliver (k := 53) rfl) rfl rfl
theorem k_Md_deliver_89 : am_Snd gG mt yMd_deliver 89 (0, 1, 0, 0, 90, []) := sd_iconst 1 0 0 [] (da dk_Md_deliver (k := 54) rfl)
theorem k_Md_deliver_90 : am_Snd gG mt yMd_deliver 90 (6, 0, 0, 0, 91, []) := sd_iadd 0 0 0 [] (da dk_Md_deliver (k := 55) rfl)
theorem k_Md_deliver_91 : am_Snd gG mt yMd_deliver 91 (46, 0, 0, 0, 92, []) := sd_iast 0 0 0 [] (da dk_Md_deliver (k := 56) rfl) rfl rfl
theorem k_Md_deliver_92 : am_Snd gG mt yMd_deliver 92 (0, (-6), 0, 0, 94, []) := sd_bipush (-6) 0 0 [] (da dk_Md_deliver (k := 57) rfl) (by decide)
theorem k_Md_deliver_94 : am_Snd gG mt yMd_deliver 94 (71, 0, 0, 0, 95, []) := sd_iret 0 0 0 95 [] (da dk_Md_deliver (k := 58) rfl) rfl
theorem k_Md_deliver_95 : am_Snd gG mt yMd_deliver 95 (2, 0, 0, 0, 96, []) := sd_aload_n 0 0 0 [] rfl (da dk_Md_deliver (k := 59) rfl)
theorem k_Md_deliver_96 : am_Snd gG mt yMd_deliver 96 (1, 0, 1, 0, 97, []) := sd_iload_n 0 1 0 [] rfl (da dk_Md_deliver (k := 60) rfl)
theorem k_Md_deliver_97 : am_Snd gG mt yMd_deliver 97 (1, 0, 2, 0, 98, []) := sd_iload_n 0 2 0 [] rfl (da dk_Md_deliver (k := 61) rfl)
theorem k_Md_deliver_98 : am_Snd gG mt yMd_deliver 98 (61, 3, 130, 3, 101, [(0, 7)]) := sd_callV 3 130 3 7 mt_130 (da dk_Md_deliver (k := 62) rfl) gG_ok rfl w_896 (List.forall_mem_cons.2 ⟨w_893, List.forall_mem_cons.2 ⟨w_895, List.forall_mem_cons.2 ⟨w_45, List.forall_mem_cons.2 ⟨w_53, fun _ h => absurd h List.not_mem_nil⟩⟩⟩⟩) hd_130 (by decide) rfl (Nat.le_of_ble_eq_true rfl) (Nat.le_of_ble_eq_true rfl)
theorem k_Md_deliver_101 : am_Snd gG mt yMd_deliver 101 (3, 0, 4, 0, 103, []) := sd_istore 0 4 0 [] (da dk_Md_deliver (k := 63) rfl)
theorem k_Md_deliver_103 : am_Snd gG mt yMd_deliver 103 (2, 0, 0, 0, 104, []) := sd_aload_n 0 0 0 [] rfl (da dk_Md_deliver (k := 64) rfl)
theorem k_Md_deliver_104 : am_Snd gG mt yMd_deliver 104 (1, 0, 1, 0, 105, []) := sd_iload_n 0 1 0 [] rfl (da dk_Md_deliver (k := 65) rfl)
theorem k_Md_deliver_105 : am_Snd gG mt yMd_deliver 105 (61, 1, 124, 2, 108, [(0, 7)]) := sd_callV 1 124 2 7 mt_124 (da dk_Md_deliver (k := 66) rfl) gG_ok rfl w_873 (List.forall_mem_cons.2 ⟨w_870, List.forall_mem_cons.2 ⟨w_872, List.forall_mem_cons.2 ⟨w_42, List.forall_mem_cons.2 ⟨w_53, fun _ h => absurd h List.not_mem_nil⟩⟩⟩⟩) hd_124 (by decide) rfl (Nat.le_of_ble_eq_true rfl) (Nat.le_of_ble_eq_true rfl)
theorem k_Md_deliver_108 : am_Snd gG mt yMd_deliver 108 (1, 0, 4, 0, 110, []) := sd_iload 0 4 0 [] (da dk_Md_deliver (k := 67) rfl)
theorem k_Md_deliver_110 : am_Snd gG mt yMd_deliver 110 (71, 0, 0, 0, 111, []) := sd_iret 0 0 0 111 [] (da dk_Md_deliver (k := 68) rfl) rfl
set_option maxRecDepth 20000 in
theorem ks_Md_deliver : ∀ q ∈ tMd_deliver, am_Snd gG mt yMd_deliver q.1 q.2 := List.forall_mem_cons.2 ⟨k_Md_deliver_0, List.forall_mem_cons.2 ⟨k_Md_deliver_1, List.forall_mem_cons.2 ⟨k_Md_deliver_4, List.forall_mem_cons.2 ⟨k_Md_deliver_7, List.forall_mem_cons.2 ⟨k_Md_deliver_8, List.forall_mem_cons.2 ⟨k_Md_deliver_9, List.forall_mem_cons.2 ⟨k_Md_deliver_10, List.forall_mem_cons.2 ⟨k_Md_deliver_11, List.forall_mem_cons.2 ⟨k_Md_deliver_14, List.forall_mem_cons.2 ⟨k_Md_deliver_17, List.forall_mem_cons.2 ⟨k_Md_deliver_19, List.forall_mem_cons.2 ⟨k_Md_deliver_20, List.forall_mem_cons.2 ⟨k_Md_deliver_23, List.forall_mem_cons.2 ⟨k_Md_deliver_24, List.forall_mem_cons.2 ⟨k_Md_deliver_25, List.forall_mem_cons.2 ⟨k_Md_deliver_26, List.forall_mem_cons.2 ⟨k_Md_deliver_27, List.forall_mem_cons.2 ⟨k_Md_deliver_28, List.forall_mem_cons.2 ⟨k_Md_deliver_29, List.forall_mem_cons.2 ⟨k_Md_deliver_32, List.forall_mem_cons.2 ⟨k_Md_deliver_33, List.forall_mem_cons.2 ⟨k_Md_deliver_34, List.forall_mem_cons.2 ⟨k_Md_deliver_37, List.forall_mem_cons.2 ⟨k_Md_deliver_39, List.forall_mem_cons.2 ⟨k_Md_deliver_40, List.forall_mem_cons.2 ⟨k_Md_deliver_41, List.forall_mem_cons.2 ⟨k_Md_deliver_44, List.forall_mem_cons.2 ⟨k_Md_deliver_45, List.forall_mem_cons.2 ⟨k_Md_deliver_46, List.forall_mem_cons.2 ⟨k_Md_deliver_49, List.forall_mem_cons.2 ⟨k_Md_deliver_51, List.forall_mem_cons.2 ⟨k_Md_deliver_52, List.forall_mem_cons.2 ⟨k_Md_deliver_53, List.forall_mem_cons.2 ⟨k_Md_deliver_54, List.forall_mem_cons.2 ⟨k_Md_deliver_55, List.forall_mem_cons.2 ⟨k_Md_deliver_58, List.forall_mem_cons.2 ⟨k_Md_deliver_61, List.forall_mem_cons.2 ⟨k_Md_deliver_62, List.forall_mem_cons.2 ⟨k_Md_deliver_65, List.forall_mem_cons.2 ⟨k_Md_deliver_66, List.forall_mem_cons.2 ⟨k_Md_deliver_67, List.forall_mem_cons.2 ⟨k_Md_deliver_69, List.forall_mem_cons.2 ⟨k_Md_deliver_72, List.forall_mem_cons.2 ⟨k_Md_deliver_74, List.forall_mem_cons.2 ⟨k_Md_deliver_75, List.forall_mem_cons.2 ⟨k_Md_deliver_76, List.forall_mem_cons.2 ⟨k_Md_deliver_79, List.forall_mem_cons.2 ⟨k_Md_deliver_80, List.forall_mem_cons.2 ⟨k_Md_deliver_81, List.forall_mem_cons.2 ⟨k_Md_deliver_82, List.forall_mem_cons.2 ⟨k_Md_deliver_83, List.forall_mem_cons.2 ⟨k_Md_deliver_86, List.forall_mem_cons.2 ⟨k_Md_deliver_87, List.forall_mem_cons.2 ⟨k_Md_deliver_88, List.forall_mem_cons.2 ⟨k_Md_deliver_89, List.forall_mem_cons.2 ⟨k_Md_deliver_90, List.forall_mem_cons.2 ⟨k_Md_deliver_91, List.forall_mem_cons.2 ⟨k_Md_deliver_92, List.forall_mem_cons.2 ⟨k_Md_deliver_94, List.forall_mem_cons.2 ⟨k_Md_deliver_95, List.forall_mem_cons.2 ⟨k_Md_deliver_96, List.forall_mem_cons.2 ⟨k_Md_deliver_97, List.forall_mem_cons.2 ⟨k_Md_deliver_98, List.forall_mem_cons.2 ⟨k_Md_deliver_101, List.forall_mem_cons.2 ⟨k_Md_deliver_103, List.forall_mem_cons.2 ⟨k_Md_deliver_104, List.forall_mem_cons.2 ⟨k_Md_deliver_105, List.forall_mem_cons.2 ⟨k_Md_deliver_108, List.forall_mem_cons.2 ⟨k_Md_deliver_110, fun _ h => absurd h List.not_mem_nil⟩⟩⟩⟩⟩⟩⟩⟩⟩⟩⟩⟩⟩⟩⟩⟩⟩⟩⟩⟩⟩⟩⟩⟩⟩⟩⟩⟩⟩⟩⟩⟩⟩⟩⟩⟩⟩⟩⟩⟩⟩⟩⟩⟩⟩⟩⟩⟩⟩⟩⟩⟩⟩⟩⟩⟩⟩⟩⟩⟩⟩⟩⟩⟩⟩⟩⟩⟩⟩
def dl_Md_isServer : List (Nat × Instr × Nat) := [(0, .iload_n 0, 1), (1, .ifCond .lt 12, 3), (4, .iload_n 0, 1), (5, .iconst 4, 1), (6, .if_icmp .ge 7, 3), (9, .iconst 1, 1), (10, .goto 4, 3), (13, .iconst 0, 1), (14, .ireturn, 1)]
set_option maxRecDepth 20000 in
theorem dk_Md_isServer : (dl_Md_isServer.all fun q => decide (decode prog_10_method_36_code q.1 = .ok (q.2.1, q.2.2))) = true := by decide +kernel
theorem k_Md_isServer_0 : am_Snd gG mt yMd_isServer 0 (1, 0, 0, 0, 1, []) := sd_iload_n 0 0 0 [] rfl (da dk_Md_isServer (k := 0) rfl)
theorem k_Md_isServer_1 : am_Snd gG mt yMd_isServer 1 (30, 0, 13, 2, 4, []) := sd_if_lt 0 13 [] (da dk_Md_isServer (k := 1) rfl) (by decide)
theorem k_Md_isServer_4 : am_Snd gG mt yMd_isServer 4 (1, 0, 0, 0, 5, []) := sd_iload_n 0 0 0 [] rfl (da dk_Md_isServer (k := 2) rfl)
theorem k_Md_isServer_5 : am_Snd gG mt yMd_isServer 5 (0, 4, 0, 0, 6, []) := sd_iconst 4 0 0 [] (da dk_Md_isServer (k := 3) rfl)
theorem k_Md_isServer_6 : am_Snd gG mt yMd_isServer 6 (31, 0, 13, 3, 9, []) := sd_icmp_ge 0 13 [] (da dk_Md_isServer (k := 4) rfl) (by decide)
theorem k_Md_isServer_9 : am_Snd gG mt yMd_isServer 9 (0, 1, 0, 0, 10, []) := sd_iconst 1 0 0 [] (da dk_Md_isServer (k := 5) rfl)
theorem k_Md_isServer_10 : am_Snd gG mt yMd_isServer 10 (26, 0, 14, 0, 13, []) := sd_goto 0 14 0 13 [] (da dk_Md_isServer (k := 6) rfl) (by decide)
theorem k_Md_isServer_13 : am_Snd gG mt yMd_isServer 13 (0, 0, 0, 0, 14, []) := sd_iconst 0 0 0 [] (da dk_Md_isServer (k := 7) rfl)
theorem k_Md_isServer_14 : am_Snd gG mt yMd_isServer 14 (72, 0, 0, 0, 15, []) := sd_zret 0 0 0 15 [] (da dk_Md_isServer (k := 8) rfl) rfl
set_option maxRecDepth 20000 in
theorem ks_Md_isServer : ∀ q ∈ tMd_isServer, am_Snd gG mt yMd_isServer q.1 q.2 := List.forall_mem_cons.2 ⟨k_Md_isServer_0, List.forall_mem_cons.2 ⟨k_Md_isServer_1, List.forall_mem_cons.2 ⟨k_Md_isServer_4, List.forall_mem_cons.2 ⟨k_Md_isServer_5, List.forall_mem_cons.2 ⟨k_Md_isServer_6, List.forall_mem_cons.2 ⟨k_Md_isServer_9, List.forall_mem_cons.2 ⟨k_Md_isServer_10, List.forall_mem_cons.2 ⟨k_Md_isServer_13, List.forall_mem_cons.2 ⟨k_Md_isServer_14, fun _ h => absurd h List.not_mem_nil⟩⟩⟩⟩⟩⟩⟩⟩⟩
def dl_Md_isEvent : List (Nat × Instr × Nat) := [(0, .iload_n 1, 1), (1, .ifCond .lt 15, 3), (4, .iload_n 1, 1), (5, .aload_n 0, 1), (6, .getfield 131, 3), (9, .if_icmp .ge 7, 3), (12, .iconst 1, 1), (13, .goto 4, 3), (16, .iconst 0, 1), (17, .ireturn, 1)]
set_option maxRecDepth 20000 in
theorem dk_Md_isEvent : (dl_Md_isEvent.all fun q => decide (decode prog_10_method_37_code q.1 = .ok (q.2.1, q.2.2))) = true := by decide +kernel
theorem k_Md_isEvent_0 : am_Snd gG mt yMd_isEvent 0 (1, 0, 1, 0, 1, []) := sd_iload_n 0 1 0 [] rfl (da dk_Md_isEvent (k := 0) rfl)
theorem k_Md_isEvent_1 : am_Snd gG mt yMd_isEvent 1 (30, 0, 16, 2, 4, []) := sd_if_lt 0 16 [] (da dk_Md_isEvent (k := 1) rfl) (by decide)
theorem k_Md_isEvent_4 : am_Snd gG mt yMd_isEvent 4 (1, 0, 1, 0, 5, []) := sd_iload_n 0 1 0 [] rfl (da dk_Md_isEvent (k := 2) rfl)
theorem k_Md_isEvent_5 : am_Snd gG mt yMd_isEvent 5 (2, 0, 0, 0, 6, []) := sd_aload_n 0 0 0 [] rfl (da dk_Md_isEvent (k := 3) rfl)
theorem k_Md_isEvent_6 : am_Snd gG mt yMd_isEvent 6 (40, 0, 7, 14, 9, []) := sd_getf 0 7 14 [] (da dk_Md_isEvent (k := 4) rfl) rfl (by decide) hin_7 w_664
theorem k_Md_isEvent_9 : am_Snd gG mt yMd_isEvent 9 (31, 0, 16, 3, 12, []) := sd_icmp_ge 0 16 [] (da dk_Md_isEvent (k := 5) rfl) (by decide)
theorem k_Md_isEvent_12 : am_Snd gG mt yMd_isEvent 12 (0, 1, 0, 0, 13, []) := sd_iconst 1 0 0 [] (da dk_Md_isEvent (k := 6) rfl)
theorem k_Md_isEvent_13 : am_Snd gG mt yMd_isEvent 13 (26, 0, 17, 0, 16, []) := sd_goto 0 17 0 16 [] (da dk_Md_isEvent (k := 7) rfl) (by decide)
theorem k_Md_isEvent_16 : am_Snd gG mt yMd_isEvent 16 (0, 0, 0, 0, 17, []) := sd_iconst 0 0 0 [] (da dk_Md_isEvent (k := 8) rfl)
theorem k_Md_isEvent_17 : am_Snd gG mt yMd_isEvent 17 (72, 0, 0, 0, 18, []) := sd_zret 0 0 0 18 [] (da dk_Md_isEvent (k := 9) rfl) rfl
set_option maxRecDepth 20000 in
theorem ks_Md_isEvent : ∀ q ∈ tMd_isEvent, am_Snd gG mt yMd_isEvent q.1 q.2 := List.forall_mem_cons.2 ⟨k_Md_isEvent_0, List.forall_mem_cons.2 ⟨k_Md_isEvent_1, List.forall_mem_cons.2 ⟨k_Md_isEvent_4, List.forall_mem_cons.2 ⟨k_Md_isEvent_5, List.forall_mem_cons.2 ⟨k_Md_isEvent_6, List.forall_mem_cons.2 ⟨k_Md_isEvent_9, List.forall_mem_cons.2 ⟨k_Md_isEvent_12, List.forall_mem_cons.2 ⟨k_Md_isEvent_13, List.forall_mem_cons.2 ⟨k_Md_isEvent_16, List.forall_mem_cons.2 ⟨k_Md_isEvent_17, fun _ h => absurd h List.not_mem_nil⟩⟩⟩⟩⟩⟩⟩⟩⟩⟩
def dl_Md_ready : List (Nat × Instr × Nat) := [(0, .iconst 0, 1), (1, .istore_n 3, 1), (2, .iload_n 3, 1), (3, .aload_n 0, 1), (4, .getfield 28, 3), (7, .iload_n 2, 1), (8, .iaload, 1), (9, .if_icmp .ge 35, 3), (12, .aload_n 0, 1), (13, .getfield 54, 3), (16, .sipush 400, 3), (19, .iload_n 1, 1), (20, .imul, 1), (21, .aload_n 0, 1), (22, .getfield 25, 3), (25, .iconst 4, 1), (26, .iload_n 2, 1), (27, .imul, 1), (28, .iload_n 3, 1), (29, .iadd, 1), (30, .iaload, 1), (31, .iadd, 1), (32, .baload, 1), (33, .ifCond .ne 5, 3), (36, .iconst 0, 1), (37, .ireturn, 1), (38, .iinc 3 1, 3), (41, .goto (-39), 3), (44, .iconst 1, 1), (45, .ireturn, 1)]
set_option maxRecDepth 20000 in
theorem dk_Md_ready : (dl_Md_ready.all fun q => decide (decode prog_10_method_34_code q.1 = .ok (q.2.1, q.2.2))) = true := by decide +kernel
theorem k_Md_ready_0 : am_Snd gG mt yMd_ready 0 (0, 0, 0, 0, 1, []) := sd_iconst 0 0 0 [] (da dk_Md_ready (k := 0) rfl)
theorem k_Md_ready_1 : am_Snd gG mt yMd_ready 1 (3, 0, 3, 0, 2, []) := sd_istore_n 0 3 0 [] rfl (da dk_Md_ready (k := 1) rfl)
theorem k_Md_ready_2 : am_Snd gG mt yMd_ready 2 (1, 0, 3, 0, 3, []) := sd_iload_n 0 3 0 [] rfl (da dk_Md_ready (k := 2) rfl)
theorem k_Md_ready_3 : am_Snd gG mt yMd_ready 3 (2, 0, 0, 0, 4, []) := sd_aload_n 0 0 0 [] rfl (da dk_Md_ready (k := 3) rfl)
theorem k_Md_ready_4 : am_Snd gG mt yMd_ready 4 (40, 0, 7, 6, 7, []) := sd_getf 0 7 6 [] (da dk_Md_ready (k := 4) rfl) rfl (by decide) hin_7 w_656
theorem k_Md_ready_7 : am_Snd gG mt yMd_ready 7 (1, 0, 2, 0, 8, []) := sd_iload_n 0 2 0 [] rfl (da dk_Md_ready (k := 5) rfl)
theorem k_Md_ready_8 : am_Snd gG mt yMd_ready 8 (42, 0, 0, 0, 9, []) := sd_iald 0 0 0 [] (da dk_Md_ready (k := 6) rfl) rfl rfl
theorem k_Md_ready_9 : am_Snd gG mt yMd_ready 9 (31, 0, 44, 3, 12, []) := sd_icmp_ge 0 44 [] (da dk_Md_ready (k := 7) rfl) (by decide)
theorem k_Md_ready_12 : am_Snd gG mt yMd_ready 12 (2, 0, 0, 0, 13, []) := sd_aload_n 0 0 0 [] rfl (da dk_Md_ready (k := 8) rfl)
theorem k_Md_ready_13 : am_Snd gG mt yMd_ready 13 (40, 0, 7, 15, 16, []) := sd_getf 0 7 15 [] (da dk_Md_ready (k := 9) rfl) rfl (by decide) hin_7 w_665
theorem k_Md_ready_16 : am_Snd gG mt yMd_ready 16 (0, 400, 0, 0, 19, []) := sd_sipush 400 0 0 [] (da dk_Md_ready (k := 10) rfl) (by decide)
theorem k_Md_ready_19 : am_Snd gG mt yMd_ready 19 (1, 0, 1, 0, 20, []) := sd_iload_n 0 1 0 [] rfl (da dk_Md_ready (k := 11) rfl)
theorem k_Md_ready_20 : am_Snd gG mt yMd_ready 20 (8, 0, 0, 0, 21, []) := sd_imul 0 0 0 [] (da dk_Md_ready (k := 12) rfl)
theorem k_Md_ready_21 : am_Snd gG mt yMd_ready 21 (2, 0, 0, 0, 22, []) := sd_aload_n 0 0 0 [] rfl (da dk_Md_ready (k := 13) rfl)
theorem k_Md_ready_22 : am_Snd gG mt yMd_ready 22 (40, 0, 7, 5, 25, []) := sd_getf 0 7 5 [] (da dk_Md_ready (k := 14) rfl) rfl (by decide) hin_7 w_655
theorem k_Md_ready_25 : am_Snd gG mt yMd_ready 25 (0, 4, 0, 0, 26, []) := sd_iconst 4 0 0 [] (da dk_Md_ready (k := 15) rfl)
theorem k_Md_ready_26 : am_Snd gG mt yMd_ready 26 (1, 0, 2, 0, 27, []) := sd_iload_n 0 2 0 [] rfl (da dk_Md_ready (k := 16) rfl)
theorem k_Md_ready_27 : am_Snd gG mt yMd_ready 27 (8, 0, 0, 0, 28, []) := sd_imul 0 0 0 [] (da dk_Md_ready (k := 17) rfl)
theorem k_Md_ready_28 : am_Snd gG mt yMd_ready 28 (1, 0, 3, 0, 29, []) := sd_iload_n 0 3 0 [] rfl (da dk_Md_ready (k := 18) rfl)
theorem k_Md_ready_29 : am_Snd gG mt yMd_ready 29 (6, 0, 0, 0, 30, []) := sd_iadd 0 0 0 [] (da dk_Md_ready (k := 19) rfl)
theorem k_Md_ready_30 : am_Snd gG mt yMd_ready 30 (42, 0, 0, 0, 31, []) := sd_iald 0 0 0 [] (da dk_Md_ready (k := 20) rfl) rfl rfl
theorem k_Md_ready_31 : am_Snd gG mt yMd_ready 31 (6, 0, 0, 0, 32, []) := sd_iadd 0 0 0 [] (da dk_Md_ready (k := 21) rfl)
theorem k_Md_ready_32 : am_Snd gG mt yMd_ready 32 (42, 0, 1, 0, 33, []) := sd_bald 0 1 0 [] (da dk_Md_ready (k := 22) rfl) rfl rfl
theorem k_Md_ready_33 : am_Snd gG mt yMd_ready 33 (30, 0, 38, 1, 36, []) := sd_if_ne 0 38 [] (da dk_Md_ready (k := 23) rfl) (by decide)
theorem k_Md_ready_36 : am_Snd gG mt yMd_ready 36 (0, 0, 0, 0, 37, []) := sd_iconst 0 0 0 [] (da dk_Md_ready (k := 24) rfl)
theorem k_Md_ready_37 : am_Snd gG mt yMd_ready 37 (72, 0, 0, 0, 38, []) := sd_zret 0 0 0 38 [] (da dk_Md_ready (k := 25) rfl) rfl
theorem k_Md_ready_38 : am_Snd gG mt yMd_ready 38 (5, 1, 3, 0, 41, []) := sd_iinc 1 3 0 [] (da dk_Md_ready (k := 26) rfl)
theorem k_Md_ready_41 : am_Snd gG mt yMd_ready 41 (26, 0, 2, 0, 44, []) := sd_goto 0 2 0 44 [] (da dk_Md_ready (k := 27) rfl) (by decide)
theorem k_Md_ready_44 : am_Snd gG mt yMd_ready 44 (0, 1, 0, 0, 45, []) := sd_iconst 1 0 0 [] (da dk_Md_ready (k := 28) rfl)
theorem k_Md_ready_45 : am_Snd gG mt yMd_ready 45 (72, 0, 0, 0, 46, []) := sd_zret 0 0 0 46 [] (da dk_Md_ready (k := 29) rfl) rfl
set_option maxRecDepth 20000 in
theorem ks_Md_ready : ∀ q ∈ tMd_ready, am_Snd gG mt yMd_ready q.1 q.2 := List.forall_mem_cons.2 ⟨k_Md_ready_0, List.forall_mem_cons.2 ⟨k_Md_ready_1, List.forall_mem_cons.2 ⟨k_Md_ready_2, List.forall_mem_cons.2 ⟨k_Md_ready_3, List.forall_mem_cons.2 ⟨k_Md_ready_4, List.forall_mem_cons.2 ⟨k_Md_ready_7, List.forall_mem_cons.2 ⟨k_Md_ready_8, List.forall_mem_cons.2 ⟨k_Md_ready_9, List.forall_mem_cons.2 ⟨k_Md_ready_12, List.forall_mem_cons.2 ⟨k_Md_ready_13, List.forall_mem_cons.2 ⟨k_Md_ready_16, List.forall_mem_cons.2 ⟨k_Md_ready_19, List.forall_mem_cons.2 ⟨k_Md_ready_20, List.forall_mem_cons.2 ⟨k_Md_ready_21, List.forall_mem_cons.2 ⟨k_Md_ready_22, List.forall_mem_cons.2 ⟨k_Md_ready_25, List.forall_mem_cons.2 ⟨k_Md_ready_26, List.forall_mem_cons.2 ⟨k_Md_ready_27, List.forall_mem_cons.2 ⟨k_Md_ready_28, List.forall_mem_cons.2 ⟨k_Md_ready_29, List.forall_mem_cons.2 ⟨k_Md_ready_30, List.forall_mem_cons.2 ⟨k_Md_ready_31, List.forall_mem_cons.2 ⟨k_Md_ready_32, List.forall_mem_cons.2 ⟨k_Md_ready_33, List.forall_mem_cons.2 ⟨k_Md_ready_36, List.forall_mem_cons.2 ⟨k_Md_ready_37, List.forall_mem_cons.2 ⟨k_Md_ready_38, List.forall_mem_cons.2 ⟨k_Md_ready_41, List.forall_mem_cons.2 ⟨k_Md_ready_44, List.forall_mem_cons.2 ⟨k_Md_ready_45, fun _ h => absurd h List.not_mem_nil⟩⟩⟩⟩⟩⟩⟩⟩⟩⟩⟩⟩⟩⟩⟩⟩⟩⟩⟩⟩⟩⟩⟩⟩⟩⟩⟩⟩⟩⟩
def dl_Md_learn : List (Nat × Instr × Nat) := [(0, .aload_n 0, 1), (1, .getfield 54, 3), (4, .sipush 400, 3), (7, .iload_n 1, 1), (8, .imul, 1), (9, .iload_n 2, 1), (10, .iadd, 1), (11, .iconst 1, 1), (12, .bastore, 1), (13, .iconst 1, 1), (14, .istore_n 3, 1), (15, .iconst 1, 1), (16, .istore 4, 2), (18, .iload 4, 2), (20, .ifCond .eq 105, 3), (23, .iconst 0, 1), (24, .istore 4, 2), (26, .iconst 0, 1), (27, .istore 5, 2), (29, .iload 5, 2), (31, .aload_n 0, 1), (32, .getfield 131, 3), (35, .if_icmp .ge 87, 3), (38, .iload 4, 2), (40, .ifCond .ne 82, 3), (43, .aload_n 0, 1), (44, .getfield 57, 3), (47, .sipush 400, 3), (50, .iload_n 1, 1), (51, .imul, 1), (52, .iload 5, 2), (54, .iadd, 1), (55, .baload, 1), (56, .ifCond .eq 60, 3), (59, .aload_n 0, 1), (60, .iload_n 1, 1), (61, .iload 5, 2), (63, .invokevirtual 215, 3), (66, .ifCond .ne 6, 3), (69, .goto 47, 3), (72, .aload_n 0, 1), (73, .getfield 57, 3), (76, .sipush 400, 3), (79, .iload_n 1, 1), (80, .imul, 1), (81, .iload 5, 2), (83, .iadd, 1), (84, .iconst 0, 1), (85, .bastore, 1), (86, .aload_n 0, 1), (87, .getfield 60, 3), (90, .iload_n 1, 1), (91, .dup2, 1), (92, .iaload, 1), (93, .iconst 1, 1), (94, .isub, 1), (95, .iastore, 1), (96, .aload_n 0, 1), (97, .getfield 54, 3), (100, .sipush 400, 3), (103, .iload_n 1, 1), (104, .imul, 1), (105, .iload 5, 2), (107, .iadd, 1), (108, .iconst 1, 1), (109, .bastore, 1), (110, .iinc 3 1, 3), (113, .iconst 1, 1), (114, .istore 4, 2), (116, .iinc 5 1, 3), (119, .goto (-90), 3), (122, .goto (-104), 3), (125, .iload_n 3, 1), (126, .ireturn, 1)]
set_option maxRecDepth 20000 in
theorem dk_Md_learn : (dl_Md_learn.all fun q => decide (decode prog_10_method_35_code q.1 = .ok (q.2.1, q.2.2))) = true := by decide +kernel
theorem k_Md_learn_0 : am_Snd gG mt yMd_learn 0 (2, 0, 0, 0, 1, []) := sd_aload_n 0 0 0 [] rfl (da dk_Md_learn (k := 0) rfl)
theorem k_Md_learn_1 : am_Snd gG mt yMd_learn 1 (40, 0, 7, 15, 4, []) := sd_getf 0 7 15 [] (da dk_Md_learn (k := 1) rfl) rfl (by decide) hin_7 w_665
theorem k_Md_learn_4 : am_Snd gG mt yMd_learn 4 (0, 400, 0, 0, 7, []) := sd_sipush 400 0 0 [] (da dk_Md_learn (k := 2) rfl) (by decide)
theorem k_Md_learn_7 : am_Snd gG mt yMd_learn 7 (1, 0, 1, 0, 8, []) := sd_iload_n 0 1 0 [] rfl (da dk_Md_learn (k := 3) rfl)
theorem k_Md_learn_8 : am_Snd gG mt yMd_learn 8 (8, 0, 0, 0, 9, []) := sd_imul 0 0 0 [] (da dk_Md_learn (k := 4) rfl)
theorem k_Md_learn_9 : am_Snd gG mt yMd_learn 9 (1, 0, 2, 0, 10, []) := sd_iload_n 0 2 0 [] rfl (da dk_Md_learn (k := 5) rfl)
theorem k_Md_learn_10 : am_Snd gG mt yMd_learn 10 (6, 0, 0, 0, 11, []) := sd_iadd 0 0 0 [] (da dk_Md_learn (k := 6) rfl)
theorem k_Md_learn_11 : am_Snd gG mt yMd_learn 11 (0, 1, 0, 0, 12, []) := sd_iconst 1 0 0 [] (da dk_Md_learn (k := 7) rfl)
theorem k_Md_learn_12 : am_Snd gG mt yMd_learn 12 (49, 0, 1, 0, 13, []) := sd_bast 0 1 0 [] (da dk_Md_learn (k := 8) rfl) rfl rfl
theorem k_Md_learn_13 : am_Snd gG mt yMd_learn 13 (0, 1, 0, 0, 14, []) := sd_iconst 1 0 0 [] (da dk_Md_learn (k := 9) rfl)
theorem k_Md_learn_14 : am_Snd gG mt yMd_learn 14 (3, 0, 3, 0, 15, []) := sd_istore_n 0 3 0 [] rfl (da dk_Md_learn (k := 10) rfl)
theorem k_Md_learn_15 : am_Snd gG mt yMd_learn 15 (0, 1, 0, 0, 16, []) := sd_iconst 1 0 0 [] (da dk_Md_learn (k := 11) rfl)
theorem k_Md_learn_16 : am_Snd gG mt yMd_learn 16 (3, 0, 4, 0, 18, []) := sd_istore 0 4 0 [] (da dk_Md_learn (k := 12) rfl)
theorem k_Md_learn_18 : am_Snd gG mt yMd_learn 18 (1, 0, 4, 0, 20, []) := sd_iload 0 4 0 [] (da dk_Md_learn (k := 13) rfl)
theorem k_Md_learn_20 : am_Snd gG mt yMd_learn 20 (30, 0, 125, 0, 23, []) := sd_if_eq 0 125 [] (da dk_Md_learn (k := 14) rfl) (by decide)
theorem k_Md_learn_23 : am_Snd gG mt yMd_learn 23 (0, 0, 0, 0, 24, []) := sd_iconst 0 0 0 [] (da dk_Md_learn (k := 15) rfl)
theorem k_Md_learn_24 : am_Snd gG mt yMd_learn 24 (3, 0, 4, 0, 26, []) := sd_istore 0 4 0 [] (da dk_Md_learn (k := 16) rfl)
theorem k_Md_learn_26 : am_Snd gG mt yMd_learn 26 (0, 0, 0, 0, 27, []) := sd_iconst 0 0 0 [] (da dk_Md_learn (k := 17) rfl)
theorem k_Md_learn_27 : am_Snd gG mt yMd_learn 27 (3, 0, 5, 0, 29, []) := sd_istore 0 5 0 [] (da dk_Md_learn (k := 18) rfl)
theorem k_Md_learn_29 : am_Snd gG mt yMd_learn 29 (1, 0, 5, 0, 31, []) := sd_iload 0 5 0 [] (da dk_Md_learn (k := 19) rfl)
theorem k_Md_learn_31 : am_Snd gG mt yMd_learn 31 (2, 0, 0, 0, 32, []) := sd_aload_n 0 0 0 [] rfl (da dk_Md_learn (k := 20) rfl)
theorem k_Md_learn_32 : am_Snd gG mt yMd_learn 32 (40, 0, 7, 14, 35, []) := sd_getf 0 7 14 [] (da dk_Md_learn (k := 21) rfl) rfl (by decide) hin_7 w_664
theorem k_Md_learn_35 : am_Snd gG mt yMd_learn 35 (31, 0, 122, 3, 38, []) := sd_icmp_ge 0 122 [] (da dk_Md_learn (k := 22) rfl) (by decide)
theorem k_Md_learn_38 : am_Snd gG mt yMd_learn 38 (1, 0, 4, 0, 40, []) := sd_iload 0 4 0 [] (da dk_Md_learn (k := 23) rfl)
theorem k_Md_learn_40 : am_Snd gG mt yMd_learn 40 (30, 0, 122, 1, 43, []) := sd_if_ne 0 122 [] (da dk_Md_learn (k := 24) rfl) (by decide)
theorem k_Md_learn_43 : am_Snd gG mt yMd_learn 43 (2, 0, 0, 0, 44, []) := sd_aload_n 0 0 0 [] rfl (da dk_Md_learn (k := 25) rfl)
theorem k_Md_learn_44 : am_Snd gG mt yMd_learn 44 (40, 0, 7, 16, 47, []) := sd_getf 0 7 16 [] (da dk_Md_learn (k := 26) rfl) rfl (by decide) hin_7 w_666
theorem k_Md_learn_47 : am_Snd gG mt yMd_learn 47 (0, 400, 0, 0, 50, []) := sd_sipush 400 0 0 [] (da dk_Md_learn (k := 27) rfl) (by decide)
theorem k_Md_learn_50 : am_Snd gG mt yMd_learn 50 (1, 0, 1, 0, 51, []) := sd_iload_n 0 1 0 [] rfl (da dk_Md_learn (k := 28) rfl)
theorem k_Md_learn_51 : am_Snd gG mt yMd_learn 51 (8, 0, 0, 0, 52, []) := sd_imul 0 0 0 [] (da dk_Md_learn (k := 29) rfl)
theorem k_Md_learn_52 : am_Snd gG mt yMd_learn 52 (1, 0, 5, 0, 54, []) := sd_iload 0 5 0 [] (da dk_Md_learn (k := 30) rfl)
theorem k_Md_learn_54 : am_Snd gG mt yMd_learn 54 (6, 0, 0, 0, 55, []) := sd_iadd 0 0 0 [] (da dk_Md_learn (k := 31) rfl)
theorem k_Md_learn_55 : am_Snd gG mt yMd_learn 55 (42, 0, 1, 0, 56, []) := sd_bald 0 1 0 [] (da dk_Md_learn (k := 32) rfl) rfl rfl
theorem k_Md_learn_56 : am_Snd gG mt yMd_learn 56 (30, 0, 116, 0, 59, []) := sd_if_eq 0 116 [] (da dk_Md_learn (k := 33) rfl) (by decide)
theorem k_Md_learn_59 : am_Snd gG mt yMd_learn 59 (2, 0, 0, 0, 60, []) := sd_aload_n 0 0 0 [] rfl (da dk_Md_learn (k := 34) rfl)
theorem k_Md_learn_60 : am_Snd gG mt yMd_learn 60 (1, 0, 1, 0, 61, []) := sd_iload_n 0 1 0 [] rfl (da dk_Md_learn (k := 35) rfl)
theorem k_Md_learn_61 : am_Snd gG mt yMd_learn 61 (1, 0, 5, 0, 63, []) := sd_iload 0 5 0 [] (da dk_Md_learn (k := 36) rfl)
theorem k_Md_learn_63 : am_Snd gG mt yMd_learn 63 (61, 1, 129, 3, 66, [(0, 7)]) := sd_callV 1 129 3 7 mt_129 (da dk_Md_learn (k := 37) rfl) gG_ok rfl w_892 (List.forall_mem_cons.2 ⟨w_889, List.forall_mem_cons.2 ⟨w_891, List.forall_mem_cons.2 ⟨w_44, List.forall_mem_cons.2 ⟨w_53, fun _ h => absurd h List.not_mem_nil⟩⟩⟩⟩) hd_129 (by decide) rfl (Nat.le_of_ble_eq_true rfl) (Nat.le_of_ble_eq_true rfl)
theorem k_Md_learn_66 : am_Snd gG mt yMd_learn 66 (30, 0, 72, 1, 69, []) := sd_if_ne 0 72 [] (da dk_Md_learn (k := 38) rfl) (by decide)
theorem k_Md_learn_69 : am_Snd gG mt yMd_learn 69 (26, 0, 116, 0, 72, []) := sd_goto 0 116 0 72 [] (da dk_Md_learn (k := 39) rfl) (by decide)
theorem k_Md_learn_72 : am_Snd gG mt yMd_learn 72 (2, 0, 0, 0, 73, []) := sd_aload_n 0 0 0 [] rfl (da dk_Md_learn (k := 40) rfl)
theorem k_Md_learn_73 : am_Snd gG mt yMd_learn 73 (40, 0, 7, 16, 76, []) := sd_getf 0 7 16 [] (da dk_Md_learn (k := 41) rfl) rfl (by decide) hin_7 w_666
theorem k_Md_learn_76 : am_Snd gG mt yMd_learn 76 (0, 400, 0, 0, 79, []) := sd_sipush 400 0 0 [] (da dk_Md_learn (k := 42) rfl) (by decide)
theorem k_Md_learn_79 : am_Snd gG mt yMd_learn 79 (1, 0, 1, 0, 80, []) := sd_iload_n 0 1 0 [] rfl (da dk_Md_learn (k := 43) rfl)
theorem k_Md_learn_80 : am_Snd gG mt yMd_learn 80 (8, 0, 0, 0, 81, []) := sd_imul 0 0 0 [] (da dk_Md_learn (k := 44) rfl)
theorem k_Md_learn_81 : am_Snd gG mt yMd_learn 81 (1, 0, 5, 0, 83, []) := sd_iload 0 5 0 [] (da dk_Md_learn (k := 45) rfl)
theorem k_Md_learn_83 : am_Snd gG mt yMd_learn 83 (6, 0, 0, 0, 84, []) := sd_iadd 0 0 0 [] (da dk_Md_learn (k := 46) rfl)
theorem k_Md_learn_84 : am_Snd gG mt yMd_learn 84 (0, 0, 0, 0, 85, []) := sd_iconst 0 0 0 [] (da dk_Md_learn (k := 47) rfl)
theorem k_Md_learn_85 : am_Snd gG mt yMd_learn 85 (49, 0, 1, 0, 86, []) := sd_bast 0 1 0 [] (da dk_Md_learn (k := 48) rfl) rfl rfl
theorem k_Md_learn_86 : am_Snd gG mt yMd_learn 86 (2, 0, 0, 0, 87, []) := sd_aload_n 0 0 0 [] rfl (da dk_Md_learn (k := 49) rfl)
theorem k_Md_learn_87 : am_Snd gG mt yMd_learn 87 (40, 0, 7, 17, 90, []) := sd_getf 0 7 17 [] (da dk_Md_learn (k := 50) rfl) rfl (by decide) hin_7 w_667
theorem k_Md_learn_90 : am_Snd gG mt yMd_learn 90 (1, 0, 1, 0, 91, []) := sd_iload_n 0 1 0 [] rfl (da dk_Md_learn (k := 51) rfl)
theorem k_Md_learn_91 : am_Snd gG mt yMd_learn 91 (15, 0, 0, 0, 92, []) := sd_dup2 0 0 0 [] (da dk_Md_learn (k := 52) rfl)
theorem k_Md_learn_92 : am_Snd gG mt yMd_learn 92 (42, 0, 0, 0, 93, []) := sd_iald 0 0 0 [] (da dk_Md_learn (k := 53) rfl) rfl rfl
theorem k_Md_learn_93 : am_Snd gG mt yMd_learn 93 (0, 1, 0, 0, 94, []) := sd_iconst 1 0 0 [] (da dk_Md_learn (k := 54) rfl)
theorem k_Md_learn_94 : am_Snd gG mt yMd_learn 94 (7, 0, 0, 0, 95, []) := sd_isub 0 0 0 [] (da dk_Md_learn (k := 55) rfl)
theorem k_Md_learn_95 : am_Snd gG mt yMd_learn 95 (46, 0, 0, 0, 96, []) := sd_iast 0 0 0 [] (da dk_Md_learn (k := 56) rfl) rfl rfl
theorem k_Md_learn_96 : am_Snd gG mt yMd_learn 96 (2, 0, 0, 0, 97, []) := sd_aload_n 0 0 0 [] rfl (da dk_Md_learn (k := 57) rfl)
theorem k_Md_learn_97 : am_Snd gG mt yMd_learn 97 (40, 0, 7, 15, 100, []) := sd_getf 0 7 15 [] (da dk_Md_learn (k := 58) rfl) rfl (by decide) hin_7 w_665
theorem k_Md_learn_100 : am_Snd gG mt yMd_learn 100 (0, 400, 0, 0, 103, []) := sd_sipush 400 0 0 [] (da dk_Md_learn (k := 59) rfl) (by decide)
theorem k_Md_learn_103 : am_Snd gG mt yMd_learn 103 (1, 0, 1, 0, 104, []) := sd_iload_n 0 1 0 [] rfl (da dk_Md_learn (k := 60) rfl)
theorem k_Md_learn_104 : am_Snd gG mt yMd_learn 104 (8, 0, 0, 0, 105, []) := sd_imul 0 0 0 [] (da dk_Md_learn (k := 61) rfl)
theorem k_Md_learn_105 : am_Snd gG mt yMd_learn 105 (1, 0, 5, 0, 107, []) := sd_iload 0 5 0 [] (da dk_Md_learn (k := 62) rfl)
theorem k_Md_learn_107 : am_Snd gG mt yMd_learn 107 (6, 0, 0, 0, 108, []) := sd_iadd 0 0 0 [] (da dk_Md_learn (k := 63) rfl)
theorem k_Md_learn_108 : am_Snd gG mt yMd_learn 108 (0, 1, 0, 0, 109, []) := sd_iconst 1 0 0 [] (da dk_Md_learn (k := 64) rfl)
theorem k_Md_learn_109 : am_Snd gG mt yMd_learn 109 (49, 0, 1, 0, 110, []) := sd_bast 0 1 0 [] (da dk_Md_learn (k := 65) rfl) rfl rfl
theorem k_Md_learn_110 : am_Snd gG mt yMd_learn 110 (5, 1, 3, 0, 113, []) := sd_iinc 1 3 0 [] (da dk_Md_learn (k := 66) rfl)
theorem k_Md_learn_113 : am_Snd gG mt yMd_learn 113 (0, 1, 0, 0, 114, []) := sd_iconst 1 0 0 [] (da dk_Md_learn (k := 67) rfl)
theorem k_Md_learn_114 : am_Snd gG mt yMd_learn 114 (3, 0, 4, 0, 116, []) := sd_istore 0 4 0 [] (da dk_Md_learn (k := 68) rfl)
theorem k_Md_learn_116 : am_Snd gG mt yMd_learn 116 (5, 1, 5, 0, 119, []) := sd_iinc 1 5 0 [] (da dk_Md_learn (k := 69) rfl)
theorem k_Md_learn_119 : am_Snd gG mt yMd_learn 119 (26, 0, 29, 0, 122, []) := sd_goto 0 29 0 122 [] (da dk_Md_learn (k := 70) rfl) (by decide)
theorem k_Md_learn_122 : am_Snd gG mt yMd_learn 122 (26, 0, 18, 0, 125, []) := sd_goto 0 18 0 125 [] (da dk_Md_learn (k := 71) rfl) (by decide)
theorem k_Md_learn_125 : am_Snd gG mt yMd_learn 125 (1, 0, 3, 0, 126, []) := sd_iload_n 0 3 0 [] rfl (da dk_Md_learn (k := 72) rfl)
theorem k_Md_learn_126 : am_Snd gG mt yMd_learn 126 (71, 0, 0, 0, 127, []) := sd_iret 0 0 0 127 [] (da dk_Md_learn (k := 73) rfl) rfl
set_option maxRecDepth 20000 in
theorem ks_Md_learn : ∀ q ∈ tMd_learn, am_Snd gG mt yMd_learn q.1 q.2 := List.forall_mem_cons.2 ⟨k_Md_learn_0, List.forall_mem_cons.2 ⟨k_Md_learn_1, List.forall_mem_cons.2 ⟨k_Md_learn_4, List.forall_mem_cons.2 ⟨k_Md_learn_7, List.forall_mem_cons.2 ⟨k_Md_learn_8, List.forall_mem_cons.2 ⟨k_Md_learn_9, List.forall_mem_cons.2 ⟨k_Md_learn_10, List.forall_mem_cons.2 ⟨k_Md_learn_11, List.forall_mem_cons.2 ⟨k_Md_learn_12, List.forall_mem_cons.2 ⟨k_Md_learn_13, List.forall_mem_cons.2 ⟨k_Md_learn_14, List.forall_mem_cons.2 ⟨k_Md_learn_15, List.forall_mem_cons.2 ⟨k_Md_learn_16, List.forall_mem_cons.2 ⟨k_Md_learn_18, List.forall_mem_cons.2 ⟨k_Md_learn_20, List.forall_mem_cons.2 ⟨k_Md_learn_23, List.forall_mem_cons.2 ⟨k_Md_learn_24, List.forall_mem_cons.2 ⟨k_Md_learn_26, List.forall_mem_cons.2 ⟨k_Md_learn_27, List.forall_mem_cons.2 ⟨k_Md_learn_29, List.forall_mem_cons.2 ⟨k_Md_learn_31, List.forall_mem_cons.2 ⟨k_Md_learn_32, List.forall_mem_cons.2 ⟨k_Md_learn_35, List.forall_mem_cons.2 ⟨k_Md_learn_38, List.forall_mem_cons.2 ⟨k_Md_learn_40, List.forall_mem_cons.2 ⟨k_Md_learn_43, List.forall_mem_cons.2 ⟨k_Md_learn_44, List.forall_mem_cons.2 ⟨k_Md_learn_47, List.forall_mem_cons.2 ⟨k_Md_learn_50, List.forall_mem_cons.2 ⟨k_Md_learn_51, List.forall_mem_cons.2 ⟨k_Md_learn_52, List.forall_mem_cons.2 ⟨k_Md_learn_54, List.forall_mem_cons.2 ⟨k_Md_learn_55, List.forall_mem_cons.2 ⟨k_Md_learn_56, List.forall_mem_cons.2 ⟨k_Md_learn_59, List.forall_mem_cons.2 ⟨k_Md_learn_60, List.forall_mem_cons.2 ⟨k_Md_learn_61, List.forall_mem_cons.2 ⟨k_Md_learn_63, List.forall_mem_cons.2 ⟨k_Md_learn_66, List.forall_mem_cons.2 ⟨k_Md_learn_69, List.forall_mem_cons.2 ⟨k_Md_learn_72, List.forall_mem_cons.2 ⟨k_Md_learn_73, List.forall_mem_cons.2 ⟨k_Md_learn_76, List.forall_mem_cons.2 ⟨k_Md_learn_79, List.forall_mem_cons.2 ⟨k_Md_learn_80, List.forall_mem_cons.2 ⟨k_Md_learn_81, List.forall_mem_cons.2 ⟨k_Md_learn_83, List.forall_mem_cons.2 ⟨k_Md_learn_84, List.forall_mem_cons.2 ⟨k_Md_learn_85, List.forall_mem_cons.2 ⟨k_Md_learn_86, List.forall_mem_cons.2 ⟨k_Md_learn_87, List.forall_mem_cons.2 ⟨k_Md_learn_90, List.forall_mem_cons.2 ⟨k_Md_learn_91, List.forall_mem_cons.2 ⟨k_Md_learn_92, List.forall_mem_cons.2 ⟨k_Md_learn_93, List.forall_mem_cons.2 ⟨k_Md_learn_94, List.forall_mem_cons.2 ⟨k_Md_learn_95, List.forall_mem_cons.2 ⟨k_Md_learn_96, List.forall_mem_cons.2 ⟨k_Md_learn_97, List.forall_mem_cons.2 ⟨k_Md_learn_100, List.forall_mem_cons.2 ⟨k_Md_learn_103, List.forall_mem_cons.2 ⟨k_Md_learn_104, List.forall_mem_cons.2 ⟨k_Md_learn_105, List.forall_mem_cons.2 ⟨k_Md_learn_107, List.forall_mem_cons.2 ⟨k_Md_learn_108, List.forall_mem_cons.2 ⟨k_Md_learn_109, List.forall_mem_cons.2 ⟨k_Md_learn_110, List.forall_mem_cons.2 ⟨k_Md_learn_113, List.forall_mem_cons.2 ⟨k_Md_learn_114, List.forall_mem_cons.2 ⟨k_Md_learn_116, List.forall_mem_cons.2 ⟨k_Md_learn_119, List.forall_mem_cons.2 ⟨k_Md_learn_122, List.forall_mem_cons.2 ⟨k_Md_learn_125, List.forall_mem_cons.2 ⟨k_Md_learn_126, fun _ h => absurd h List.not_mem_nil⟩⟩⟩⟩⟩⟩⟩⟩⟩⟩⟩⟩⟩⟩⟩⟩⟩⟩⟩⟩⟩⟩⟩⟩⟩⟩⟩⟩⟩⟩⟩⟩⟩⟩⟩⟩⟩⟩⟩⟩⟩⟩⟩⟩⟩⟩⟩⟩⟩⟩⟩⟩⟩⟩⟩⟩⟩⟩⟩⟩⟩⟩⟩⟩⟩⟩⟩⟩⟩⟩⟩⟩⟩⟩
def dl_Md_sync : List (Nat × Instr × Nat) := [(0, .iload_n 1, 1), (1, .invokestatic 218, 3), (4, .ifCond .eq 10, 3), (7, .iload_n 2, 1), (8, .invokestatic 218, 3), (11, .ifCond .ne 5, 3), (14, .iconst (-1), 1), (15, .ireturn, 1), (16, .iconst 0, 1), (17, .istore_n 3, 1), (18, .iconst 0, 1), (19, .istore 4, 2), (21, .iload 4, 2), (23, .aload_n 0, 1), (24, .getfield 131, 3), (27, .if_icmp .ge 94, 3), (30, .aload_n 0, 1), (31, .getfield 54, 3), (34, .sipush 400, 3), (37, .iload_n 1, 1), (38, .imul, 1), (39, .iload 4, 2), (41, .iadd, 1), (42, .baload, 1), (43, .ifCond .eq 72, 3), (46, .aload_n 0, 1), (47, .getfield 54, 3), (50, .sipush 400, 3), (53, .iload_n 2, 1), (54, .imul, 1), (55, .iload 4, 2), (57, .iadd, 1), (58, .baload, 1), (59, .ifCond .eq 6, 3), (62, .goto 53, 3), (65, .aload_n 0, 1), (66, .getfield 57, 3), (69, .sipush 400, 3), (72, .iload_n 2, 1), (73, .imul, 1), (74, .iload 4, 2), (76, .iadd, 1), (77, .baload, 1), (78, .ifCond .eq 27, 3), (81, .aload_n 0, 1), (82, .getfield 57, 3), (85, .sipush 400, 3), (88, .iload_n 2, 1), (89, .imul, 1), (90, .iload 4, 2), (92, .iadd, 1), (93, .iconst 0, 1), (94, .bastore, 1), (95, .aload_n 0, 1), (96, .getfield 60, 3), (99, .iload_n 2, 1), (100, .dup2, 1), (101, .iaload, 1), (102, .iconst 1, 1), (103, .isub, 1), (104, .iastore, 1), (105, .iload_n 3, 1), (106, .aload_n 0, 1), (107, .iload_n 2, 1), (108, .iload 4, 2), (110, .invokevirtual 224, 3), (113, .iadd, 1), (114, .istore_n 3, 1), (115, .iinc 4 1, 3), (118, .goto (-97), 3), (121, .iload_n 3, 1), (122, .ifCond .le 8, 3), (125, .aload_n 0, 1), (126, .iload_n 2, 1), (127, .invokevirtual 212, 3), (130, .iload_n 3, 1), (131, .ireturn, 1)]
set_option maxRecDepth 20000 in
theorem dk_Md_sync : (dl_Md_sync.all fun q => decide (decode prog_10_method_39_code q.1 = .ok (q.2.1, q.2.2))) = true := by decide +kernel
theorem k_Md_sync_0 : am_Snd gG mt yMd_sync 0 (1, 0, 1, 0, 1, []) := sd_iload_n 0 1 0 [] rfl (da dk_Md_sync (k := 0) rfl)
theorem k_Md_sync_1 : am_Snd gG mt yMd_sync 1 (60, 0, 127, 1, 4, []) := sd_callS 0 127 1 [] mt_127 (da dk_Md_sync (k := 1) rfl) gG_ok w_884 (List.forall_mem_cons.2 ⟨w_882, List.forall_mem_cons.2 ⟨w_883, List.forall_mem_cons.2 ⟨w_53, fun _ h => absurd h List.not_mem_nil⟩⟩⟩) hd_127 rfl (Nat.le_of_ble_eq_true rfl) (Nat.le_of_ble_eq_true rfl)
theorem k_Md_sync_4 : am_Snd gG mt yMd_sync 4 (30, 0, 14, 0, 7, []) := sd_if_eq 0 14 [] (da dk_Md_sync (k := 2) rfl) (by decide)
theorem k_Md_sync_7 : am_Snd gG mt yMd_sync 7 (1, 0, 2, 0, 8, []) := sd_iload_n 0 2 0 [] rfl (da dk_Md_sync (k := 3) rfl)
theorem k_Md_sync_8 : am_Snd gG mt yMd_sync 8 (60, 0, 127, 1, 11, []) := sd_callS 0 127 1 [] mt_127 (da dk_Md_sync (k := 4) rfl) gG_ok w_884 (List.forall_mem_cons.2 ⟨w_882, List.forall_mem_cons.2 ⟨w_883, List.forall_mem_cons.2 ⟨w_53, fun _ h => absurd h List.not_mem_nil⟩⟩⟩) hd_127 rfl (Nat.le_of_ble_eq_true rfl) (Nat.le_of_ble_eq_true rfl)
theorem k_Md_sync_11 : am_Snd gG mt yMd_sync 11 (30, 0, 16, 1, 14, []) := sd_if_ne 0 16 [] (da dk_Md_sync (k := 5) rfl) (by decide)
theorem k_Md_sync_14 : am_Snd gG mt yMd_sync 14 (0, (-1), 0, 0, 15, []) := sd_iconst (-1) 0 0 [] (da dk_Md_sync (k := 6) rfl)
theorem k_Md_sync_15 : am_Snd gG mt yMd_sync 15 (71, 0, 0, 0, 16, []) := sd_iret 0 0 0 16 [] (da dk_Md_sync (k := 7) rfl) rfl
theorem k_Md_sync_16 : am_Snd gG mt yMd_sync 16 (0, 0, 0, 0, 17, []) := sd_iconst 0 0 0 [] (da dk_Md_sync (k := 8) rfl)
theorem k_Md_sync_17 : am_Snd gG mt yMd_sync 17 (3, 0, 3, 0, 18, []) := sd_istore_n 0 3 0 [] rfl (da dk_Md_sync (k := 9) rfl)
theorem k_Md_sync_18 : am_Snd gG mt yMd_sync 18 (0, 0, 0, 0, 19, []) := sd_iconst 0 0 0 [] (da dk_Md_sync (k := 10) rfl)
theorem k_Md_sync_19 : am_Snd gG mt yMd_sync 19 (3, 0, 4, 0, 21, []) := sd_istore 0 4 0 [] (da dk_Md_sync (k := 11) rfl)
theorem k_Md_sync_21 : am_Snd gG mt yMd_sync 21 (1, 0, 4, 0, 23, []) := sd_iload 0 4 0 [] (da dk_Md_sync (k := 12) rfl)
theorem k_Md_sync_23 : am_Snd gG mt yMd_sync 23 (2, 0, 0, 0, 24, []) := sd_aload_n 0 0 0 [] rfl (da dk_Md_sync (k := 13) rfl)
theorem k_Md_sync_24 : am_Snd gG mt yMd_sync 24 (40, 0, 7, 14, 27, []) := sd_getf 0 7 14 [] (da dk_Md_sync (k := 14) rfl) rfl (by decide) hin_7 w_664
theorem k_Md_sync_27 : am_Snd gG mt yMd_sync 27 (31, 0, 121, 3, 30, []) := sd_icmp_ge 0 121 [] (da dk_Md_sync (k := 15) rfl) (by decide)
theorem k_Md_sync_30 : am_Snd gG mt yMd_sync 30 (2, 0, 0, 0, 31, []) := sd_aload_n 0 0 0 [] rfl (da dk_Md_sync (k := 16) rfl)
theorem k_Md_sync_31 : am_Snd gG mt yMd_sync 31 (40, 0, 7, 15, 34, []) := sd_getf 0 7 15 [] (da dk_Md_sync (k := 17) rfl) rfl (by decide) hin_7 w_665
theorem k_Md_sync_34 : am_Snd gG mt yMd_sync 34 (0, 400, 0, 0, 37, []) := sd_sipush 400 0 0 [] (da dk_Md_sync (k := 18) rfl) (by decide)
theorem k_Md_sync_37 : am_Snd gG mt yMd_sync 37 (1, 0, 1, 0, 38, []) := sd_iload_n 0 1 0 [] rfl (da dk_Md_sync (k := 19) rfl)
theorem k_Md_sync_38 : am_Snd gG mt yMd_sync 38 (8, 0, 0, 0, 39, []) := sd_imul 0 0 0 [] (da dk_Md_sync (k := 20) rfl)
theorem k_Md_sync_39 : am_Snd gG mt yMd_sync 39 (1, 0, 4, 0, 41, []) := sd_iload 0 4 0 [] (da dk_Md_sync (k := 21) rfl)
theorem k_Md_sync_41 : am_Snd gG mt yMd_sync 41 (6, 0, 0, 0, 42, []) := sd_iadd 0 0 0 [] (da dk_Md_sync (k := 22) rfl)
theorem k_Md_sync_42 : am_Snd gG mt yMd_sync 42 (42, 0, 1, 0, 43, []) := sd_bald 0 1 0 [] (da dk_Md_sync (k := 23) rfl) rfl rfl
theorem k_Md_sync_43 : am_Snd gG mt yMd_sync 43 (30, 0, 115, 0, 46, []) := sd_if_eq 0 115 [] (da dk_Md_sync (k := 24) rfl) (by decide)
theorem k_Md_sync_46 : am_Snd gG mt yMd_sync 46 (2, 0, 0, 0, 47, []) := sd_aload_n 0 0 0 [] rfl (da dk_Md_sync (k := 25) rfl)
theorem k_Md_sync_47 : am_Snd gG mt yMd_sync 47 (40, 0, 7, 15, 50, []) := sd_getf 0 7 15 [] (da dk_Md_sync (k := 26) rfl) rfl (by decide) hin_7 w_665
theorem k_Md_sync_50 : am_Snd gG mt yMd_sync 50 (0, 400, 0, 0, 53, []) := sd_sipush 400 0 0 [] (da dk_Md_sync (k := 27) rfl) (by decide)
theorem k_Md_sync_53 : am_Snd gG mt yMd_sync 53 (1, 0, 2, 0, 54, []) := sd_iload_n 0 2 0 [] rfl (da dk_Md_sync (k := 28) rfl)
theorem k_Md_sync_54 : am_Snd gG mt yMd_sync 54 (8, 0, 0, 0, 55, []) := sd_imul 0 0 0 [] (da dk_Md_sync (k := 29) rfl)
theorem k_Md_sync_55 : am_Snd gG mt yMd_sync 55 (1, 0, 4, 0, 57, []) := sd_iload 0 4 0 [] (da dk_Md_sync (k := 30) rfl)
theorem k_Md_sync_57 : am_Snd gG mt yMd_sync 57 (6, 0, 0, 0, 58, []) := sd_iadd 0 0 0 [] (da dk_Md_sync (k := 31) rfl)
theorem k_Md_sync_58 : am_Snd gG mt yMd_sync 58 (42, 0, 1, 0, 59, []) := sd_bald 0 1 0 [] (da dk_Md_sync (k := 32) rfl) rfl rfl
theorem k_Md_sync_59 : am_Snd gG mt yMd_sync 59 (30, 0, 65, 0, 62, []) := sd_if_eq 0 65 [] (da dk_Md_sync (k := 33) rfl) (by decide)
theorem k_Md_sync_62 : am_Snd gG mt yMd_sync 62 (26, 0, 115, 0, 65, []) := sd_goto 0 115 0 65 [] (da dk_Md_sync (k := 34) rfl) (by decide)
theorem k_Md_sync_65 : am_Snd gG mt yMd_sync 65 (2, 0, 0, 0, 66, []) := sd_aload_n 0 0 0 [] rfl (da dk_Md_sync (k := 35) rfl)
theorem k_Md_sync_66 : am_Snd gG mt yMd_sync 66 (40, 0, 7, 16, 69, []) := sd_getf 0 7 16 [] (da dk_Md_sync (k := 36) rfl) rfl (by decide) hin_7 w_666
theorem k_Md_sync_69 : am_Snd gG mt yMd_sync 69 (0, 400, 0, 0, 72, []) := sd_sipush 400 0 0 [] (da dk_Md_sync (k := 37) rfl) (by decide)
theorem k_Md_sync_72 : am_Snd gG mt yMd_sync 72 (1, 0, 2, 0, 73, []) := sd_iload_n 0 2 0 [] rfl (da dk_Md_sync (k := 38) rfl)
theorem k_Md_sync_73 : am_Snd gG mt yMd_sync 73 (8, 0, 0, 0, 74, []) := sd_imul 0 0 0 [] (da dk_Md_sync (k := 39) rfl)
theorem k_Md_sync_74 : am_Snd gG mt yMd_sync 74 (1, 0, 4, 0, 76, []) := sd_iload 0 4 0 [] (da dk_Md_sync (k := 40) rfl)
theorem k_Md_sync_76 : am_Snd gG mt yMd_sync 76 (6, 0, 0, 0, 77, []) := sd_iadd 0 0 0 [] (da dk_Md_sync (k := 41) rfl)
theorem k_Md_sync_77 : am_Snd gG mt yMd_sync 77 (42, 0, 1, 0, 78, []) := sd_bald 0 1 0 [] (da dk_Md_sync (k := 42) rfl) rfl rfl
theorem k_Md_sync_78 : am_Snd gG mt yMd_sync 78 (30, 0, 105, 0, 81, []) := sd_if_eq 0 105 [] (da dk_Md_sync (k := 43) rfl) (by decide)
theorem k_Md_sync_81 : am_Snd gG mt yMd_sync 81 (2, 0, 0, 0, 82, []) := sd_aload_n 0 0 0 [] rfl (da dk_Md_sync (k := 44) rfl)
theorem k_Md_sync_82 : am_Snd gG mt yMd_sync 82 (40, 0, 7, 16, 85, []) := sd_getf 0 7 16 [] (da dk_Md_sync (k := 45) rfl) rfl (by decide) hin_7 w_666
theorem k_Md_sync_85 : am_Snd gG mt yMd_sync 85 (0, 400, 0, 0, 88, []) := sd_sipush 400 0 0 [] (da dk_Md_sync (k := 46) rfl) (by decide)
theorem k_Md_sync_88 : am_Snd gG mt yMd_sync 88 (1, 0, 2, 0, 89, []) := sd_iload_n 0 2 0 [] rfl (da dk_Md_sync (k := 47) rfl)
theorem k_Md_sync_89 : am_Snd gG mt yMd_sync 89 (8, 0, 0, 0, 90, []) := sd_imul 0 0 0 [] (da dk_Md_sync (k := 48) rfl)
theorem k_Md_sync_90 : am_Snd gG mt yMd_sync 90 (1, 0, 4, 0, 92, []) := sd_iload 0 4 0 [] (da dk_Md_sync (k := 49) rfl)
theorem k_Md_sync_92 : am_Snd gG mt yMd_sync 92 (6, 0, 0, 0, 93, []) := sd_iadd 0 0 0 [] (da dk_Md_sync (k := 50) rfl)
theorem k_Md_sync_93 : am_Snd gG mt yMd_sync 93 (0, 0, 0, 0, 94, []) := sd_iconst 0 0 0 [] (da dk_Md_sync (k := 51) rfl)
theorem k_Md_sync_94 : am_Snd gG mt yMd_sync 94 (49, 0, 1, 0, 95, []) := sd_bast 0 1 0 [] (da dk_Md_sync (k := 52) rfl) rfl rfl
theorem k_Md_sync_95 : am_Snd gG mt yMd_sync 95 (2, 0, 0, 0, 96, []) := sd_aload_n 0 0 0 [] rfl (da dk_Md_sync (k := 53) rfl)
theorem k_Md_sync_96 : am_Snd gG mt yMd_sync 96 (40, 0, 7, 17, 99, []) := sd_getf 0 7 17 [] (da dk_Md_sync (k := 54) rfl) rfl (by decide) hin_7 w_667
theorem k_Md_sync_99 : am_Snd gG mt yMd_sync 99 (1, 0, 2, 0, 100, []) := sd_iload_n 0 2 0 [] rfl (da dk_Md_sync (k := 55) rfl)
theorem k_Md_sync_100 : am_Snd gG mt yMd_sync 100 (15, 0, 0, 0, 101, []) := sd_dup2 0 0 0 [] (da dk_Md_sync (k := 56) rfl)
theorem k_Md_sync_101 : am_Snd gG mt yMd_sync 101 (42, 0, 0, 0, 102, []) := sd_iald 0 0 0 [] (da dk_Md_sync (k := 57) rfl) rfl rfl
theorem k_Md_sync_102 : am_Snd gG mt yMd_sync 102 (0, 1, 0, 0, 103, []) := sd_iconst 1 0 0 [] (da dk_Md_sync (k := 58) rfl)
theorem k_Md_sync_103 : am_Snd gG mt yMd_sync 103 (7, 0, 0, 0, 104, []) := sd_isub 0 0 0 [] (da dk_Md_sync (k := 59) rfl)
theorem k_Md_sync_104 : am_Snd gG mt yMd_sync 104 (46, 0, 0, 0, 105, []) := sd_iast 0 0 0 [] (da dk_Md_sync (k := 60) rfl) rfl rfl
theorem k_Md_sync_105 : am_Snd gG mt yMd_sync 105 (1, 0, 3, 0, 106, []) := sd_iload_n 0 3 0 [] rfl (da dk_Md_sync (k := 61) rfl)
theorem k_Md_sync_106 : am_Snd gG mt yMd_sync 106 (2, 0, 0, 0, 107, []) := sd_aload_n 0 0 0 [] rfl (da dk_Md_sync (k := 62) rfl)
theorem k_Md_sync_107 : am_Snd gG mt yMd_sync 107 (1, 0, 2, 0, 108, []) := sd_iload_n 0 2 0 [] rfl (da dk_Md_sync (k := 63) rfl)
theorem k_Md_sync_108 : am_Snd gG mt yMd_sync 108 (1, 0, 4, 0, 110, []) := sd_iload 0 4 0 [] (da dk_Md_sync (k := 64) rfl)
theorem k_Md_sync_110 : am_Snd gG mt yMd_sync 110 (61, 3, 130, 3, 113, [(0, 7)]) := sd_callV 3 130 3 7 mt_130 (da dk_Md_sync (k := 65) rfl) gG_ok rfl w_896 (List.forall_mem_cons.2 ⟨w_893, List.forall_mem_cons.2 ⟨w_895, List.forall_mem_cons.2 ⟨w_45, List.forall_mem_cons.2 ⟨w_53, fun _ h => absurd h List.not_mem_nil⟩⟩⟩⟩) hd_130 (by decide) rfl (Nat.le_of_ble_eq_true rfl) (Nat.le_of_ble_eq_true rfl)
theorem k_Md_sync_113 : am_Snd gG mt yMd_sync 113 (6, 0, 0, 0, 114, []) := sd_iadd 0 0 0 [] (da dk_Md_sync (k := 66) rfl)
theorem k_Md_sync_114 : am_Snd gG mt yMd_sync 114 (3, 0, 3, 0, 115, []) := sd_istore_n 0 3 0 [] rfl (da dk_Md_sync (k := 67) rfl)
theorem k_Md_sync_115 : am_Snd gG mt yMd_sync 115 (5, 1, 4, 0, 118, []) := sd_iinc 1 4 0 [] (da dk_Md_sync (k := 68) rfl)
theorem k_Md_sync_118 : am_Snd gG mt yMd_sync 118 (26, 0, 21, 0, 121, []) := sd_goto 0 21 0 121 [] (da dk_Md_sync (k := 69) rfl) (by decide)
theorem k_Md_sync_121 : am_Snd gG mt yMd_sync 121 (1, 0, 3, 0, 122, []) := sd_iload_n 0 3 0 [] rfl (da dk_Md_sync (k := 70) rfl)
theorem k_Md_sync_122 : am_Snd gG mt yMd_sync 122 (30, 0, 130, 5, 125, []) := sd_if_le 0 130 [] (da dk_Md_sync (k := 71) rfl) (by decide)
theorem k_Md_sync_125 : am_Snd gG mt yMd_sync 125 (2, 0, 0, 0, 126, []) := sd_aload_n 0 0 0 [] rfl (da dk_Md_sync (k := 72) rfl)
theorem k_Md_sync_126 : am_Snd gG mt yMd_sync 126 (1, 0, 2, 0, 127, []) := sd_iload_n 0 2 0 [] rfl (da dk_Md_sync (k := 73) rfl)
theorem k_Md_sync_127 : am_Snd gG mt yMd_sync 127 (61, 1, 124, 2, 130, [(0, 7)]) := sd_callV 1 124 2 7 mt_124 (da dk_Md_sync (k := 74) rfl) gG_ok rfl w_873 (List.forall_mem_cons.2 ⟨w_870, List.forall_mem_cons.2 ⟨w_872, List.forall_mem_cons.2 ⟨w_42, List.forall_mem_cons.2 ⟨w_53, fun _ h => absurd h List.not_mem_nil⟩⟩⟩⟩) hd_124 (by decide) rfl (Nat.le_of_ble_eq_true rfl) (Nat.le_of_ble_eq_true rfl)
theorem k_Md_sync_130 : am_Snd gG mt yMd_sync 130 (1, 0, 3, 0, 131, []) := sd_iload_n 0 3 0 [] rfl (da dk_Md_sync (k := 75) rfl)
theorem k_Md_sync_131 : am_Snd gG mt yMd_sync 131 (71, 0, 0, 0, 132, []) := sd_iret 0 0 0 132 [] (da dk_Md_sync (k := 76) rfl) rfl
set_option maxRecDepth 20000 in
theorem ks_Md_sync : ∀ q ∈ tMd_sync, am_Snd gG mt yMd_sync q.1 q.2 := List.forall_mem_cons.2 ⟨k_Md_sync_0, List.forall_mem_cons.2 ⟨k_Md_sync_1, List.forall_mem_cons.2 ⟨k_Md_sync_4, List.forall_mem_cons.2 ⟨k_Md_sync_7, List.forall_mem_cons.2 ⟨k_Md_sync_8, List.forall_mem_cons.2 ⟨k_Md_sync_11, List.forall_mem_cons.2 ⟨k_Md_sync_14, List.forall_mem_cons.2 ⟨k_Md_sync_15, List.forall_mem_cons.2 ⟨k_Md_sync_16, List.forall_mem_cons.2 ⟨k_Md_sync_17, List.forall_mem_cons.2 ⟨k_Md_sync_18, List.forall_mem_cons.2 ⟨k_Md_sync_19, List.forall_mem_cons.2 ⟨k_Md_sync_21, List.forall_mem_cons.2 ⟨k_Md_sync_23, List.forall_mem_cons.2 ⟨k_Md_sync_24, List.forall_mem_cons.2 ⟨k_Md_sync_27, List.forall_mem_cons.2 ⟨k_Md_sync_30, List.forall_mem_cons.2 ⟨k_Md_sync_31, List.forall_mem_cons.2 ⟨k_Md_sync_34, List.forall_mem_cons.2 ⟨k_Md_sync_37, List.forall_mem_cons.2 ⟨k_Md_sync_38, List.forall_mem_cons.2 ⟨k_Md_sync_39, List.forall_mem_cons.2 ⟨k_Md_sync_41, List.forall_mem_cons.2 ⟨k_Md_sync_42, List.forall_mem_cons.2 ⟨k_Md_sync_43, List.forall_mem_cons.2 ⟨k_Md_sync_46, List.forall_mem_cons.2 ⟨k_Md_sync_47, List.forall_mem_cons.2 ⟨k_Md_sync_50, List.forall_mem_cons.2 ⟨k_Md_sync_53, List.forall_mem_cons.2 ⟨k_Md_sync_54, List.forall_mem_cons.2 ⟨k_Md_sync_55, List.forall_mem_cons.2 ⟨k_Md_sync_57, List.forall_mem_cons.2 ⟨k_Md_sync_58, List.forall_mem_cons.2 ⟨k_Md_sync_59, List.forall_mem_cons.2 ⟨k_Md_sync_62, List.forall_mem_cons.2 ⟨k_Md_sync_65, List.forall_mem_cons.2 ⟨k_Md_sync_66, List.forall_mem_cons.2 ⟨k_Md_sync_69, List.forall_mem_cons.2 ⟨k_Md_sync_72, List.forall_mem_cons.2 ⟨k_Md_sync_73, List.forall_mem_cons.2 ⟨k_Md_sync_74, List.forall_mem_cons.2 ⟨k_Md_sync_76, List.forall_mem_cons.2 ⟨k_Md_sync_77, List.forall_mem_cons.2 ⟨k_Md_sync_78, List.forall_mem_cons.2 ⟨k_Md_sync_81, List.forall_mem_cons.2 ⟨k_Md_sync_82, List.forall_mem_cons.2 ⟨k_Md_sync_85, List.forall_mem_cons.2 ⟨k_Md_sync_88, List.forall_mem_cons.2 ⟨k_Md_sync_89, List.forall_mem_cons.2 ⟨k_Md_sync_90, List.forall_mem_cons.2 ⟨k_Md_sync_92, List.forall_mem_cons.2 ⟨k_Md_sync_93, List.forall_mem_cons.2 ⟨k_Md_sync_94, List.forall_mem_cons.2 ⟨k_Md_sync_95, List.forall_mem_cons.2 ⟨k_Md_sync_96, List.forall_mem_cons.2 ⟨k_Md_sync_99, List.forall_mem_cons.2 ⟨k_Md_sync_100, List.forall_mem_cons.2 ⟨k_Md_sync_101, List.forall_mem_cons.2 ⟨k_Md_sync_102, List.forall_mem_cons.2 ⟨k_Md_sync_103, List.forall_mem_cons.2 ⟨k_Md_sync_104, List.forall_mem_cons.2 ⟨k_Md_sync_105, List.forall_mem_cons.2 ⟨k_Md_sync_106, List.forall_mem_cons.2 ⟨k_Md_sync_107, List.forall_mem_cons.2 ⟨k_Md_sync_108, List.forall_mem_cons.2 ⟨k_Md_sync_110, List.forall_mem_cons.2 ⟨k_Md_sync_113, List.forall_mem_cons.2 ⟨k_Md_sync_114, List.forall_mem_cons.2 ⟨k_Md_sync_115, List.forall_mem_cons.2 ⟨k_Md_sync_118, List.forall_mem_cons.2 ⟨k_Md_sync_121, List.forall_mem_cons.2 ⟨k_Md_sync_122, List.forall_mem_cons.2 ⟨k_Md_sync_125, List.forall_mem_cons.2 ⟨k_Md_sync_126, List.forall_mem_cons.2 ⟨k_Md_sync_127, List.forall_mem_cons.2 ⟨k_Md_sync_130, List.forall_mem_cons.2 ⟨k_Md_sync_131, fun _ h => absurd h List.not_mem_nil⟩⟩⟩⟩⟩⟩⟩⟩⟩⟩⟩⟩⟩⟩⟩⟩⟩⟩⟩⟩⟩⟩⟩⟩⟩⟩⟩⟩⟩⟩⟩⟩⟩⟩⟩⟩⟩⟩⟩⟩⟩⟩⟩⟩⟩⟩⟩⟩⟩⟩⟩⟩⟩⟩⟩⟩⟩⟩⟩⟩⟩⟩⟩⟩⟩⟩⟩⟩⟩⟩⟩⟩⟩⟩⟩⟩⟩
def dl_Md_state : List (Nat × Instr × Nat) := [(0, .iload_n 1, 1), (1, .invokestatic 218, 3), (4, .ifCond .eq 22, 3), (7, .iload_n 2, 1), (8, .ifCond .lt 18, 3), (11, .iload_n 2, 1), (12, .iconst 4, 1), (13, .if_icmp .gt 13, 3), (16, .iload_n 3, 1), (17, .ifCond .lt 9, 3), (20, .iload_n 3, 1), (21, .bipush 11, 2), (23, .if_icmp .le 5, 3), (26, .iconst (-1), 1), (27, .ireturn, 1), (28, .iload_n 2, 1), (29, .iload_n 3, 1), (30, .invokestatic 99, 3), (33, .istore 4, 2), (35, .iload 4, 2), (37, .ifCond .lt 18, 3), (40, .aload_n 0, 1), (41, .getfield 63, 3), (44, .bipush 23, 2), (46, .iload_n 1, 1), (47, .imul, 1), (48, .iload 4, 2), (50, .iadd, 1), (51, .iaload, 1), (52, .ifCond .ge 8, 3), (55, .bipush (-2), 2), (57, .goto 15, 3), (60, .aload_n 0, 1), (61, .getfield 63, 3), (64, .bipush 23, 2), (66, .iload_n 1, 1), (67, .imul, 1), (68, .iload 4, 2), (70, .iadd, 1), (71, .iaload, 1), (72, .ireturn, 1)]
set_option maxRecDepth 20000 in
theorem dk_Md_state : (dl_Md_state.all fun q => decide (decode prog_10_method_40_code q.1 = .ok (q.2.1, q.2.2))) = true := by decide +kernel
theorem k_Md_state_0 : am_Snd gG mt yMd_state 0 (1, 0, 1, 0, 1, []) := sd_iload_n 0 1 0 [] rfl (da dk_Md_state (k := 0) rfl)
theorem k_Md_state_1 : am_Snd gG mt yMd_state 1 (60, 0, 127, 1, 4, []) := sd_callS 0 127 1 [] mt_127 (da dk_Md_state (k := 1) rfl) gG_ok w_884 (List.forall_mem_cons.2 ⟨w_882, List.forall_mem_cons.2 ⟨w_883, List.forall_mem_cons.2 ⟨w_53, fun _ h => absurd h List.not_mem_nil⟩⟩⟩) hd_127 rfl (Nat.le_of_ble_eq_true rfl) (Nat.le_of_ble_eq_true rfl)
theorem k_Md_state_4 : am_Snd gG mt yMd_state 4 (30, 0, 26, 0, 7, []) := sd_if_eq 0 26 [] (da dk_Md_state (k := 2) rfl) (by decide)
theorem k_Md_state_7 : am_Snd gG mt yMd_state 7 (1, 0, 2, 0, 8, []) := sd_iload_n 0 2 0 [] rfl (da dk_Md_state (k := 3) rfl)
theorem k_Md_state_8 : am_Snd gG mt yMd_state 8 (30, 0, 26, 2, 11, []) := sd_if_lt 0 26 [] (da dk_Md_state (k := 4) rfl) (by decide)
theorem k_Md_state_11 : am_Snd gG mt yMd_state 11 (1, 0, 2, 0, 12, []) := sd_iload_n 0 2 0 [] rfl (da dk_Md_state (k := 5) rfl)
theorem k_Md_state_12 : am_Snd gG mt yMd_state 12 (0, 4, 0, 0, 13, []) := sd_iconst 4 0 0 [] (da dk_Md_state (k := 6) rfl)
theorem k_Md_state_13 : am_Snd gG mt yMd_state 13 (31, 0, 26, 4, 16, []) := sd_icmp_gt 0 26 [] (da dk_Md_state (k := 7) rfl) (by decide)
theorem k_Md_state_16 : am_Snd gG mt yMd_state 16 (1, 0, 3, 0, 17, []) := sd_iload_n 0 3 0 [] rfl (da dk_Md_state (k := 8) rfl)
theorem k_Md_state_17 : am_Snd gG mt yMd_state 17 (30, 0, 26, 2, 20, []) := sd_if_lt 0 26 [] (da dk_Md_state (k := 9) rfl) (by decide)
theorem k_Md_state_20 : am_Snd gG mt yMd_state 20 (1, 0, 3, 0, 21, []) := sd_iload_n 0 3 0 [] rfl (da dk_Md_state (k := 10) rfl)
theorem k_Md_state_21 : am_Snd gG mt yMd_state 21 (0, 11, 0, 0, 23, []) := sd_bipush 11 0 0 [] (da dk_Md_state (k := 11) rfl) (by decide)
theorem k_Md_state_23 : am_Snd gG mt yMd_state 23 (31, 0, 28, 5, 26, []) := sd_icmp_le 0 28 [] (da dk_Md_state (k := 12) rfl) (by decide)
theorem k_Md_state_26 : am_Snd gG mt yMd_state 26 (0, (-1), 0, 0, 27, []) := sd_iconst (-1) 0 0 [] (da dk_Md_state (k := 13) rfl)
theorem k_Md_state_27 : am_Snd gG mt yMd_state 27 (71, 0, 0, 0, 28, []) := sd_iret 0 0 0 28 [] (da dk_Md_state (k := 14) rfl) rfl
theorem k_Md_state_28 : am_Snd gG mt yMd_state 28 (1, 0, 2, 0, 29, []) := sd_iload_n 0 2 0 [] rfl (da dk_Md_state (k := 15) rfl)
theorem k_Md_state_29 : am_Snd gG mt yMd_state 29 (1, 0, 3, 0, 30, []) := sd_iload_n 0 3 0 [] rfl (da dk_Md_state (k := 16) rfl)
theorem k_Md_state_30 : am_Snd gG mt yMd_state 30 (60, 0, 118, 2, 33, []) := sd_callS 0 118 2 [] mt_118 (da dk_Md_state (k := 17) rfl) gG_ok w_848 (List.forall_mem_cons.2 ⟨w_846, List.forall_mem_cons.2 ⟨w_847, List.forall_mem_cons.2 ⟨w_53, fun _ h => absurd h List.not_mem_nil⟩⟩⟩) hd_118 rfl (Nat.le_of_ble_eq_true rfl) (Nat.le_of_ble_eq_true rfl)
theorem k_Md_state_33 : am_Snd gG mt yMd_state 33 (3, 0, 4, 0, 35, []) := sd_istore 0 4 0 [] (da dk_Md_state (k := 18) rfl)
theorem k_Md_state_35 : am_Snd gG mt yMd_state 35 (1, 0, 4, 0, 37, []) := sd_iload 0 4 0 [] (da dk_Md_state (k := 19) rfl)
theorem k_Md_state_37 : am_Snd gG mt yMd_state 37 (30, 0, 55, 2, 40, []) := sd_if_lt 0 55 [] (da dk_Md_state (k := 20) rfl) (by decide)
theorem k_Md_state_40 : am_Snd gG mt yMd_state 40 (2, 0, 0, 0, 41, []) := sd_aload_n 0 0 0 [] rfl (da dk_Md_state (k := 21) rfl)
theorem k_Md_state_41 : am_Snd gG mt yMd_state 41 (40, 0, 7, 18, 44, []) := sd_getf 0 7 18 [] (da dk_Md_state (k := 22) rfl) rfl (by decide) hin_7 w_668
theorem k_Md_state_44 : am_Snd gG mt yMd_state 44 (0, 23, 0, 0, 46, []) := sd_bipush 23 0 0 [] (da dk_Md_state (k := 23) rfl) (by decide)
theorem k_Md_state_46 : am_Snd gG mt yMd_state 46 (1, 0, 1, 0, 47, []) := sd_iload_n 0 1 0 [] rfl (da dk_Md_state (k := 24) rfl)
theorem k_Md_state_47 : am_Snd gG mt yMd_state 47 (8, 0, 0, 0, 48, []) := sd_imul 0 0 0 [] (da dk_Md_state (k := 25) rfl)
theorem k_Md_state_48 : am_Snd gG mt yMd_state 48 (1, 0, 4, 0, 50, []) := sd_iload 0 4 0 [] (da dk_Md_state (k := 26) rfl)
theorem k_Md_state_50 : am_Snd gG mt yMd_state 50 (6, 0, 0, 0, 51, []) := sd_iadd 0 0 0 [] (da dk_Md_state (k := 27) rfl)
theorem k_Md_state_51 : am_Snd gG mt yMd_state 51 (42, 0, 0, 0, 52, []) := sd_iald 0 0 0 [] (da dk_Md_state (k := 28) rfl) rfl rfl
theorem k_Md_state_52 : am_Snd gG mt yMd_state 52 (30, 0, 60, 3, 55, []) := sd_if_ge 0 60 [] (da dk_Md_state (k := 29) rfl) (by decide)
theorem k_Md_state_55 : am_Snd gG mt yMd_state 55 (0, (-2), 0, 0, 57, []) := sd_bipush (-2) 0 0 [] (da dk_Md_state (k := 30) rfl) (by decide)
theorem k_Md_state_57 : am_Snd gG mt yMd_state 57 (26, 0, 72, 0, 60, []) := sd_goto 0 72 0 60 [] (da dk_Md_state (k := 31) rfl) (by decide)
theorem k_Md_state_60 : am_Snd gG mt yMd_state 60 (2, 0, 0, 0, 61, []) := sd_aload_n 0 0 0 [] rfl (da dk_Md_state (k := 32) rfl)
theorem k_Md_state_61 : am_Snd gG mt yMd_state 61 (40, 0, 7, 18, 64, []) := sd_getf 0 7 18 [] (da dk_Md_state (k := 33) rfl) rfl (by decide) hin_7 w_668
theorem k_Md_state_64 : am_Snd gG mt yMd_state 64 (0, 23, 0, 0, 66, []) := sd_bipush 23 0 0 [] (da dk_Md_state (k := 34) rfl) (by decide)
theorem k_Md_state_66 : am_Snd gG mt yMd_state 66 (1, 0, 1, 0, 67, []) := sd_iload_n 0 1 0 [] rfl (da dk_Md_state (k := 35) rfl)
theorem k_Md_state_67 : am_Snd gG mt yMd_state 67 (8, 0, 0, 0, 68, []) := sd_imul 0 0 0 [] (da dk_Md_state (k := 36) rfl)
theorem k_Md_state_68 : am_Snd gG mt yMd_state 68 (1, 0, 4, 0, 70, []) := sd_iload 0 4 0 [] (da dk_Md_state (k := 37) rfl)
theorem k_Md_state_70 : am_Snd gG mt yMd_state 70 (6, 0, 0, 0, 71, []) := sd_iadd 0 0 0 [] (da dk_Md_state (k := 38) rfl)
theorem k_Md_state_71 : am_Snd gG mt yMd_state 71 (42, 0, 0, 0, 72, []) := sd_iald 0 0 0 [] (da dk_Md_state (k := 39) rfl) rfl rfl
theorem k_Md_state_72 : am_Snd gG mt yMd_state 72 (71, 0, 0, 0, 73, []) := sd_iret 0 0 0 73 [] (da dk_Md_state (k := 40) rfl) rfl
set_option maxRecDepth 20000 in
theorem ks_Md_state : ∀ q ∈ tMd_state, am_Snd gG mt yMd_state q.1 q.2 := List.forall_mem_cons.2 ⟨k_Md_state_0, List.forall_mem_cons.2 ⟨k_Md_state_1, List.forall_mem_cons.2 ⟨k_Md_state_4, List.forall_mem_cons.2 ⟨k_Md_state_7, List.forall_mem_cons.2 ⟨k_Md_state_8, List.forall_mem_cons.2 ⟨k_Md_state_11, List.forall_mem_cons.2 ⟨k_Md_state_12, List.forall_mem_cons.2 ⟨k_Md_state_13, List.forall_mem_cons.2 ⟨k_Md_state_16, List.forall_mem_cons.2 ⟨k_Md_state_17, List.forall_mem_cons.2 ⟨k_Md_state_20, List.forall_mem_cons.2 ⟨k_Md_state_21, List.forall_mem_cons.2 ⟨k_Md_state_23, List.forall_mem_cons.2 ⟨k_Md_state_26, List.forall_mem_cons.2 ⟨k_Md_state_27, List.forall_mem_cons.2 ⟨k_Md_state_28, List.forall_mem_cons.2 ⟨k_Md_state_29, List.forall_mem_cons.2 ⟨k_Md_state_30, List.forall_mem_cons.2 ⟨k_Md_state_33, List.forall_mem_cons.2 ⟨k_Md_state_35, List.forall_mem_cons.2 ⟨k_Md_state_37, List.forall_mem_cons.2 ⟨k_Md_state_40, List.forall_mem_cons.2 ⟨k_Md_state_41, List.forall_mem_cons.2 ⟨k_Md_state_44, List.forall_mem_cons.2 ⟨k_Md_state_46, List.forall_mem_cons.2 ⟨k_Md_state_47, List.forall_mem_cons.2 ⟨k_Md_state_48, List.forall_mem_cons.2 ⟨k_Md_state_50, List.forall_mem_cons.2 ⟨k_Md_state_51, List.forall_mem_cons.2 ⟨k_Md_state_52, List.forall_mem_cons.2 ⟨k_Md_state_55, List.forall_mem_cons.2 ⟨k_Md_state_57, List.forall_mem_cons.2 ⟨k_Md_state_60, List.forall_mem_cons.2 ⟨k_Md_state_61, List.forall_mem_cons.2 ⟨k_Md_state_64, List.forall_mem_cons.2 ⟨k_Md_state_66, List.forall_mem_cons.2 ⟨k_Md_state_67, List.forall_mem_cons.2 ⟨k_Md_state_68, List.forall_mem_cons.2 ⟨k_Md_state_70, List.forall_mem_cons.2 ⟨k_Md_state_71, List.forall_mem_cons.2 ⟨k_Md_state_72, fun _ h => absurd h List.not_mem_nil⟩⟩⟩⟩⟩⟩⟩⟩⟩⟩⟩⟩⟩⟩⟩⟩⟩⟩⟩⟩⟩⟩⟩⟩⟩⟩⟩⟩⟩⟩⟩⟩⟩⟩⟩⟩⟩⟩⟩⟩⟩
def dl_Md_before : List (Nat × Instr × Nat) := [(0, .iload_n 2, 1), (1, .ifCond .lt 18, 3), (4, .iload_n 2, 1), (5, .iconst 4, 1), (6, .if_icmp .gt 13, 3), (9, .iload_n 3, 1), (10, .ifCond .lt 9, 3), (13, .iload_n 3, 1), (14, .bipush 11, 2), (16, .if_icmp .le 5, 3), (19, .iconst (-1), 1), (20, .ireturn, 1), (21, .iload_n 2, 1), (22, .iload_n 3, 1), (23, .invokestatic 99, 3), (26, .istore 4, 2), (28, .aload_n 0, 1), (29, .iload_n 1, 1), (30, .invokevirtual 221, 3), (33, .ifCond .eq 23, 3), (36, .iload 4, 2), (38, .ifCond .lt 18, 3), (41, .aload_n 0, 1), (42, .getfield 48, 3), (45, .bipush 23, 2), (47, .iload_n 1, 1), (48, .imul, 1), (49, .iload 4, 2), (51, .iadd, 1), (52, .iaload, 1), (53, .ifCond .ge 8, 3), (56, .bipush (-2), 2), (58, .goto 15, 3), (61, .aload_n 0, 1), (62, .getfield 48, 3), (65, .bipush 23, 2), (67, .iload_n 1, 1), (68, .imul, 1), (69, .iload 4, 2), (71, .iadd, 1), (72, .iaload, 1), (73, .ireturn, 1)]
set_option maxRecDepth 20000 in
theorem dk_Md_before : (dl_Md_before.all fun q => decide (decode prog_10_method_41_code q.1 = .ok (q.2.1, q.2.2))) = true := by decide +kernel
theorem k_Md_before_0 : am_Snd gG mt yMd_before 0 (1, 0, 2, 0, 1, []) := sd_iload_n 0 2 0 [] rfl (da dk_Md_before (k := 0) rfl)
theorem k_Md_before_1 : am_Snd gG mt yMd_before 1 (30, 0, 19, 2, 4, []) := sd_if_lt 0 19 [] (da dk_Md_before (k := 1) rfl) (by decide)
theorem k_Md_before_4 : am_Snd gG mt yMd_before 4 (1, 0, 2, 0, 5, []) := sd_iload_n 0 2 0 [] rfl (da dk_Md_before (k := 2) rfl)
theorem k_Md_before_5 : am_Snd gG mt yMd_before 5 (0, 4, 0, 0, 6, []) := sd_iconst 4 0 0 [] (da dk_Md_before (k := 3) rfl)
theorem k_Md_before_6 : am_Snd gG mt yMd_before 6 (31, 0, 19, 4, 9, []) := sd_icmp_gt 0 19 [] (da dk_Md_before (k := 4) rfl) (by decide)
theorem k_Md_before_9 : am_Snd gG mt yMd_before 9 (1, 0, 3, 0, 10, []) := sd_iload_n 0 3 0 [] rfl (da dk_Md_before (k := 5) rfl)
theorem k_Md_before_10 : am_Snd gG mt yMd_before 10 (30, 0, 19, 2, 13, []) := sd_if_lt 0 19 [] (da dk_Md_before (k := 6) rfl) (by decide)
theorem k_Md_before_13 : am_Snd gG mt yMd_before 13 (1, 0, 3, 0, 14, []) := sd_iload_n 0 3 0 [] rfl (da dk_Md_before (k := 7) rfl)
theorem k_Md_before_14 : am_Snd gG mt yMd_before 14 (0, 11, 0, 0, 16, []) := sd_bipush 11 0 0 [] (da dk_Md_before (k := 8) rfl) (by decide)
theorem k_Md_before_16 : am_Snd gG mt yMd_before 16 (31, 0, 21, 5, 19, []) := sd_icmp_le 0 21 [] (da dk_Md_before (k := 9) rfl) (by decide)
theorem k_Md_before_19 : am_Snd gG mt yMd_before 19 (0, (-1), 0, 0, 20, []) := sd_iconst (-1) 0 0 [] (da dk_Md_before (k := 10) rfl)
theorem k_Md_before_20 : am_Snd gG mt yMd_before 20 (71, 0, 0, 0, 21, []) := sd_iret 0 0 0 21 [] (da dk_Md_before (k := 11) rfl) rfl
theorem k_Md_before_21 : am_Snd gG mt yMd_before 21 (1, 0, 2, 0, 22, []) := sd_iload_n 0 2 0 [] rfl (da dk_Md_before (k := 12) rfl)
theorem k_Md_before_22 : am_Snd gG mt yMd_before 22 (1, 0, 3, 0, 23, []) := sd_iload_n 0 3 0 [] rfl (da dk_Md_before (k := 13) rfl)
theorem k_Md_before_23 : am_Snd gG mt yMd_before 23 (60, 0, 118, 2, 26, []) := sd_callS 0 118 2 [] mt_118 (da dk_Md_before (k := 14) rfl) gG_ok w_848 (List.forall_mem_cons.2 ⟨w_846, List.forall_mem_cons.2 ⟨w_847, List.forall_mem_cons.2 ⟨w_53, fun _ h => absurd h List.not_mem_nil⟩⟩⟩) hd_118 rfl (Nat.le_of_ble_eq_true rfl) (Nat.le_of_ble_eq_true rfl)
theorem k_Md_before_26 : am_Snd gG mt yMd_before 26 (3, 0, 4, 0, 28, []) := sd_istore 0 4 0 [] (da dk_Md_before (k := 15) rfl)
theorem k_Md_before_28 : am_Snd gG mt yMd_before 28 (2, 0, 0, 0, 29, []) := sd_aload_n 0 0 0 [] rfl (da dk_Md_before (k := 16) rfl)
theorem k_Md_before_29 : am_Snd gG mt yMd_before 29 (1, 0, 1, 0, 30, []) := sd_iload_n 0 1 0 [] rfl (da dk_Md_before (k := 17) rfl)
theorem k_Md_before_30 : am_Snd gG mt yMd_before 30 (61, 0, 128, 2, 33, [(0, 7)]) := sd_callV 0 128 2 7 mt_128 (da dk_Md_before (k := 18) rfl) gG_ok rfl w_888 (List.forall_mem_cons.2 ⟨w_885, List.forall_mem_cons.2 ⟨w_887, List.forall_mem_cons.2 ⟨w_43, List.forall_mem_cons.2 ⟨w_53, fun _ h => absurd h List.not_mem_nil⟩⟩⟩⟩) hd_128 (by decide) rfl (Nat.le_of_ble_eq_true rfl) (Nat.le_of_ble_eq_true rfl)
theorem k_Md_before_33 : am_Snd gG mt yMd_before 33 (30, 0, 56, 0, 36, []) := sd_if_eq 0 56 [] (da dk_Md_before (k := 19) rfl) (by decide)
theorem k_Md_before_36 : am_Snd gG mt yMd_before 36 (1, 0, 4, 0, 38, []) := sd_iload 0 4 0 [] (da dk_Md_before (k := 20) rfl)
theorem k_Md_before_38 : am_Snd gG mt yMd_before 38 (30, 0, 56, 2, 41, []) := sd_if_lt 0 56 [] (da dk_Md_before (k := 21) rfl) (by decide)
theorem k_Md_before_41 : am_Snd gG mt yMd_before 41 (2, 0, 0, 0, 42, []) := sd_aload_n 0 0 0 [] rfl (da dk_Md_before (k := 22) rfl)
theorem k_Md_before_42 : am_Snd gG mt yMd_before 42 (40, 0, 7, 12, 45, []) := sd_getf 0 7 12 [] (da dk_Md_before (k := 23) rfl) rfl (by decide) hin_7 w_662
theorem k_Md_before_45 : am_Snd gG mt yMd_before 45 (0, 23, 0, 0, 47, []) := sd_bipush 23 0 0 [] (da dk_Md_before (k := 24) rfl) (by decide)
theorem k_Md_before_47 : am_Snd gG mt yMd_before 47 (1, 0, 1, 0, 48, []) := sd_iload_n 0 1 0 [] rfl (da dk_Md_before (k := 25) rfl)
theorem k_Md_before_48 : am_Snd gG mt yMd_before 48 (8, 0, 0, 0, 49, []) := sd_imul 0 0 0 [] (da dk_Md_before (k := 26) rfl)
theorem k_Md_before_49 : am_Snd gG mt yMd_before 49 (1, 0, 4, 0, 51, []) := sd_iload 0 4 0 [] (da dk_Md_before (k := 27) rfl)
theorem k_Md_before_51 : am_Snd gG mt yMd_before 51 (6, 0, 0, 0, 52, []) := sd_iadd 0 0 0 [] (da dk_Md_before (k := 28) rfl)
theorem k_Md_before_52 : am_Snd gG mt yMd_before 52 (42, 0, 0, 0, 53, []) := sd_iald 0 0 0 [] (da dk_Md_before (k := 29) rfl) rfl rfl
theorem k_Md_before_53 : am_Snd gG mt yMd_before 53 (30, 0, 61, 3, 56, []) := sd_if_ge 0 61 [] (da dk_Md_before (k := 30) rfl) (by decide)
theorem k_Md_before_56 : am_Snd gG mt yMd_before 56 (0, (-2), 0, 0, 58, []) := sd_bipush (-2) 0 0 [] (da dk_Md_before (k := 31) rfl) (by decide)
theorem k_Md_before_58 : am_Snd gG mt yMd_before 58 (26, 0, 73, 0, 61, []) := sd_goto 0 73 0 61 [] (da dk_Md_before (k := 32) rfl) (by decide)
theorem k_Md_before_61 : am_Snd gG mt yMd_before 61 (2, 0, 0, 0, 62, []) := sd_aload_n 0 0 0 [] rfl (da dk_Md_before (k := 33) rfl)
theorem k_Md_before_62 : am_Snd gG mt yMd_before 62 (40, 0, 7, 12, 65, []) := sd_getf 0 7 12 [] (da dk_Md_before (k := 34) rfl) rfl (by decide) hin_7 w_662
theorem k_Md_before_65 : am_Snd gG mt yMd_before 65 (0, 23, 0, 0, 67, []) := sd_bipush 23 0 0 [] (da dk_Md_before (k := 35) rfl) (by decide)
theorem k_Md_before_67 : am_Snd gG mt yMd_before 67 (1, 0, 1, 0, 68, []) := sd_iload_n 0 1 0 [] rfl (da dk_Md_before (k := 36) rfl)
theorem k_Md_before_68 : am_Snd gG mt yMd_before 68 (8, 0, 0, 0, 69, []) := sd_imul 0 0 0 [] (da dk_Md_before (k := 37) rfl)
theorem k_Md_before_69 : am_Snd gG mt yMd_before 69 (1, 0, 4, 0, 71, []) := sd_iload 0 4 0 [] (da dk_Md_before (k := 38) rfl)
theorem k_Md_before_71 : am_Snd gG mt yMd_before 71 (6, 0, 0, 0, 72, []) := sd_iadd 0 0 0 [] (da dk_Md_before (k := 39) rfl)
theorem k_Md_before_72 : am_Snd gG mt yMd_before 72 (42, 0, 0, 0, 73, []) := sd_iald 0 0 0 [] (da dk_Md_before (k := 40) rfl) rfl rfl
theorem k_Md_before_73 : am_Snd gG mt yMd_before 73 (71, 0, 0, 0, 74, []) := sd_iret 0 0 0 74 [] (da dk_Md_before (k := 41) rfl) rfl
set_option maxRecDepth 20000 in
theorem ks_Md_before : ∀ q ∈ tMd_before, am_Snd gG mt yMd_before q.1 q.2 := List.forall_mem_cons.2 ⟨k_Md_before_0, List.forall_mem_cons.2 ⟨k_Md_before_1, List.forall_mem_cons.2 ⟨k_Md_before_4, List.forall_mem_cons.2 ⟨k_Md_before_5, List.forall_mem_cons.2 ⟨k_Md_before_6, List.forall_mem_cons.2 ⟨k_Md_before_9, List.forall_mem_cons.2 ⟨k_Md_before_10, List.forall_mem_cons.2 ⟨k_Md_before_13, List.forall_mem_cons.2 ⟨k_Md_before_14, List.forall_mem_cons.2 ⟨k_Md_before_16, List.forall_mem_cons.2 ⟨k_Md_before_19, List.forall_mem_cons.2 ⟨k_Md_before_20, List.forall_mem_cons.2 ⟨k_Md_before_21, List.forall_mem_cons.2 ⟨k_Md_before_22, List.forall_mem_cons.2 ⟨k_Md_before_23, List.forall_mem_cons.2 ⟨k_Md_before_26, List.forall_mem_cons.2 ⟨k_Md_before_28, List.forall_mem_cons.2 ⟨k_Md_before_29, List.forall_mem_cons.2 ⟨k_Md_before_30, List.forall_mem_cons.2 ⟨k_Md_before_33, List.forall_mem_cons.2 ⟨k_Md_before_36, List.forall_mem_cons.2 ⟨k_Md_before_38, List.forall_mem_cons.2 ⟨k_Md_before_41, List.forall_mem_cons.2 ⟨k_Md_before_42, List.forall_mem_cons.2 ⟨k_Md_before_45, List.forall_mem_cons.2 ⟨k_Md_before_47, List.forall_mem_cons.2 ⟨k_Md_before_48, List.forall_mem_cons.2 ⟨k_Md_before_49, List.forall_mem_cons.2 ⟨k_Md_before_51, List.forall_mem_cons.2 ⟨k_Md_before_52, List.forall_mem_cons.2 ⟨k_Md_before_53, List.forall_mem_cons.2 ⟨k_Md_before_56, List.forall_mem_cons.2 ⟨k_Md_before_58, List.forall_mem_cons.2 ⟨k_Md_before_61, List.forall_mem_cons.2 ⟨k_Md_before_62, List.forall_mem_cons.2 ⟨k_Md_before_65, List.forall_mem_cons.2 ⟨k_Md_before_67, List.forall_mem_cons.2 ⟨k_Md_before_68, List.forall_mem_cons.2 ⟨k_Md_before_69, List.forall_mem_cons.2 ⟨k_Md_before_71, List.forall_mem_cons.2 ⟨k_Md_before_72, List.forall_mem_cons.2 ⟨k_Md_before_73, fun _ h => absurd h List.not_mem_nil⟩⟩⟩⟩⟩⟩⟩⟩⟩⟩⟩⟩⟩⟩⟩⟩⟩⟩⟩⟩⟩⟩⟩⟩⟩⟩⟩⟩⟩⟩⟩⟩⟩⟩⟩⟩⟩⟩⟩⟩⟩⟩
def dl_Md_look : List (Nat × Instr × Nat) := [(0, .iload_n 2, 1), (1, .ifCond .lt 9, 3), (4, .iload_n 2, 1), (5, .bipush 7, 2), (7, .if_icmp .le 5, 3), (10, .iconst (-1), 1), (11, .ireturn, 1), (12, .aload_n 0, 1), (13, .iload_n 1, 1), (14, .invokevirtual 221, 3), (17, .ifCond .ne 6, 3), (20, .bipush (-2), 2), (22, .ireturn, 1), (23, .iload_n 2, 1), (24, .tableswitch 101 0 6 #[44, 51, 58, 65, 72, 79, 86], 44), (68, .aload_n 0, 1), (69, .getfield 9, 3), (72, .iload_n 1, 1), (73, .iaload, 1), (74, .ireturn, 1), (75, .aload_n 0, 1), (76, .getfield 13, 3), (79, .iload_n 1, 1), (80, .iaload, 1), (81, .ireturn, 1), (82, .aload_n 0, 1), (83, .getfield 16, 3), (86, .iload_n 1, 1), (87, .iaload, 1), (88, .ireturn, 1), (89, .aload_n 0, 1), (90, .getfield 19, 3), (93, .iload_n 1, 1), (94, .iaload, 1), (95, .ireturn, 1), (96, .aload_n 0, 1), (97, .getfield 28, 3), (100, .iload_n 1, 1), (101, .iaload, 1), (102, .ireturn, 1), (103, .aload_n 0, 1), (104, .getfield 34, 3), (107, .iload_n 1, 1), (108, .iaload, 1), (109, .ireturn, 1), (110, .aload_n 0, 1), (111, .getfield 45, 3), (114, .iload_n 1, 1), (115, .baload, 1), (116, .ifCond .eq 7, 3), (119, .iconst 1, 1), (120, .goto 4, 3), (123, .iconst 0, 1), (124, .ireturn, 1), (125, .iload_n 1, 1), (126, .invokestatic 149, 3), (129, .ireturn, 1)]
set_option maxRecDepth 20000 in
theorem dk_Md_look : (dl_Md_look.all fun q => decide (decode prog_10_method_42_code q.1 = .ok (q.2.1, q.2.2))) = true := by decide +kernel
theorem k_Md_look_0 : am_Snd gG mt yMd_look 0 (1, 0, 2, 0, 1, []) := sd_iload_n 0 2 0 [] rfl (da dk_Md_look (k := 0) rfl)
theorem k_Md_look_1 : am_Snd gG mt yMd_look 1 (30, 0, 10, 2, 4, []) := sd_if_lt 0 10 [] (da dk_Md_look (k := 1) rfl) (by decide)
theorem k_Md_look_4 : am_Snd gG mt yMd_look 4 (1, 0, 2, 0, 5, []) := sd_iload_n 0 2 0 [] rfl (da dk_Md_look (k := 2) rfl)
theorem k_Md_look_5 : am_Snd gG mt yMd_look 5 (0, 7, 0, 0, 7, []) := sd_bipush 7 0 0 [] (da dk_Md_look (k := 3) rfl) (by decide)
theorem k_Md_look_7 : am_Snd gG mt yMd_look 7 (31, 0, 12, 5, 10, []) := sd_icmp_le 0 12 [] (da dk_Md_look (k := 4) rfl) (by decide)
theorem k_Md_look_10 : am_Snd gG mt yMd_look 10 (0, (-1), 0, 0, 11, []) := sd_iconst (-1) 0 0 [] (da dk_Md_look (k := 5) rfl)
theorem k_Md_look_11 : am_Snd gG mt yMd_look 11 (71, 0, 0, 0, 12, []) := sd_iret 0 0 0 12 [] (da dk_Md_look (k := 6) rfl) rfl
theorem k_Md_look_12 : am_Snd gG mt yMd_look 12 (2, 0, 0, 0, 13, []) := sd_aload_n 0 0 0 [] rfl (da dk_Md_look (k := 7) rfl)
theorem k_Md_look_13 : am_Snd gG mt yMd_look 13 (1, 0, 1, 0, 14, []) := sd_iload_n 0 1 0 [] rfl (da dk_Md_look (k := 8) rfl)
theorem k_Md_look_14 : am_Snd gG mt yMd_look 14 (61, 0, 128, 2, 17, [(0, 7)]) := sd_callV 0 128 2 7 mt_128 (da dk_Md_look (k := 9) rfl) gG_ok rfl w_888 (List.forall_mem_cons.2 ⟨w_885, List.forall_mem_cons.2 ⟨w_887, List.forall_mem_cons.2 ⟨w_43, List.forall_mem_cons.2 ⟨w_53, fun _ h => absurd h List.not_mem_nil⟩⟩⟩⟩) hd_128 (by decide) rfl (Nat.le_of_ble_eq_true rfl) (Nat.le_of_ble_eq_true rfl)
theorem k_Md_look_17 : am_Snd gG mt yMd_look 17 (30, 0, 23, 1, 20, []) := sd_if_ne 0 23 [] (da dk_Md_look (k := 10) rfl) (by decide)
theorem k_Md_look_20 : am_Snd gG mt yMd_look 20 (0, (-2), 0, 0, 22, []) := sd_bipush (-2) 0 0 [] (da dk_Md_look (k := 11) rfl) (by decide)
theorem k_Md_look_22 : am_Snd gG mt yMd_look 22 (71, 0, 0, 0, 23, []) := sd_iret 0 0 0 23 [] (da dk_Md_look (k := 12) rfl) rfl
theorem k_Md_look_23 : am_Snd gG mt yMd_look 23 (1, 0, 2, 0, 24, []) := sd_iload_n 0 2 0 [] rfl (da dk_Md_look (k := 13) rfl)
theorem k_Md_look_24 : am_Snd gG mt yMd_look 24 (34, 0, 125, 0, 68, [(0, 68), (1, 75), (2, 82), (3, 89), (4, 96), (5, 103), (6, 110)]) := sd_table 0 125 0 68 [(0, 68), (1, 75), (2, 82), (3, 89), (4, 96), (5, 103), (6, 110)] (da dk_Md_look (k := 14) rfl) (by decide) (by decide) (by decide)
theorem k_Md_look_68 : am_Snd gG mt yMd_look 68 (2, 0, 0, 0, 69, []) := sd_aload_n 0 0 0 [] rfl (da dk_Md_look (k := 15) rfl)
theorem k_Md_look_69 : am_Snd gG mt yMd_look 69 (40, 0, 7, 0, 72, []) := sd_getf 0 7 0 [] (da dk_Md_look (k := 16) rfl) rfl (by decide) hin_7 w_650
theorem k_Md_look_72 : am_Snd gG mt yMd_look 72 (1, 0, 1, 0, 73, []) := sd_iload_n 0 1 0 [] rfl (da dk_Md_look (k := 17) rfl)
theorem k_Md_look_73 : am_Snd gG mt yMd_look 73 (42, 0, 0, 0, 74, []) := sd_iald 0 0 0 [] (da dk_Md_look (k := 18) rfl) rfl rfl
theorem k_Md_look_74 : am_Snd gG mt yMd_look 74 (71, 0, 0, 0, 75, []) := sd_iret 0 0 0 75 [] (da dk_Md_look (k := 19) rfl) rfl
theorem k_Md_look_75 : am_Snd gG mt yMd_look 75 (2, 0, 0, 0, 76, []) := sd_aload_n 0 0 0 [] rfl (da dk_Md_look (k := 20) rfl)
theorem k_Md_look_76 : am_Snd gG mt yMd_look 76 (40, 0, 7, 1, 79, []) := sd_getf 0 7 1 [] (da dk_Md_look (k := 21) rfl) rfl (by decide) hin_7 w_651
theorem k_Md_look_79 : am_Snd gG mt yMd_look 79 (1, 0, 1, 0, 80, []) := sd_iload_n 0 1 0 [] rfl (da dk_Md_look (k := 22) rfl)
theorem k_Md_look_80 : am_Snd gG mt yMd_look 80 (42, 0, 0, 0, 81, []) := sd_iald 0 0 0 [] (da dk_Md_look (k := 23) rfl) rfl rfl
theorem k_Md_look_81 : am_Snd gG mt yMd_look 81 (71, 0, 0, 0, 82, []) := sd_iret 0 0 0 82 [] (da dk_Md_look (k := 24) rfl) rfl
theorem k_Md_look_82 : am_Snd gG mt yMd_look 82 (2, 0, 0, 0, 83, []) := sd_aload_n 0 0 0 [] rfl (da dk_Md_look (k := 25) rfl)
theorem k_Md_look_83 : am_Snd gG mt yMd_look 83 (40, 0, 7, 2, 86, []) := sd_getf 0 7 2 [] (da dk_Md_look (k := 26) rfl) rfl (by decide) hin_7 w_652
theorem k_Md_look_86 : am_Snd gG mt yMd_look 86 (1, 0, 1, 0, 87, []) := sd_iload_n 0 1 0 [] rfl (da dk_Md_look (k := 27) rfl)
theorem k_Md_look_87 : am_Snd gG mt yMd_look 87 (42, 0, 0, 0, 88, []) := sd_iald 0 0 0 [] (da dk_Md_look (k := 28) rfl) rfl rfl
theorem k_Md_look_88 : am_Snd gG mt yMd_look 88 (71, 0, 0, 0, 89, []) := sd_iret 0 0 0 89 [] (da dk_Md_look (k := 29) rfl) rfl
theorem k_Md_look_89 : am_Snd gG mt yMd_look 89 (2, 0, 0, 0, 90, []) := sd_aload_n 0 0 0 [] rfl (da dk_Md_look (k := 30) rfl)
theorem k_Md_look_90 : am_Snd gG mt yMd_look 90 (40, 0, 7, 3, 93, []) := sd_getf 0 7 3 [] (da dk_Md_look (k := 31) rfl) rfl (by decide) hin_7 w_653
theorem k_Md_look_93 : am_Snd gG mt yMd_look 93 (1, 0, 1, 0, 94, []) := sd_iload_n 0 1 0 [] rfl (da dk_Md_look (k := 32) rfl)
theorem k_Md_look_94 : am_Snd gG mt yMd_look 94 (42, 0, 0, 0, 95, []) := sd_iald 0 0 0 [] (da dk_Md_look (k := 33) rfl) rfl rfl
theorem k_Md_look_95 : am_Snd gG mt yMd_look 95 (71, 0, 0, 0, 96, []) := sd_iret 0 0 0 96 [] (da dk_Md_look (k := 34) rfl) rfl
theorem k_Md_look_96 : am_Snd gG mt yMd_look 96 (2, 0, 0, 0, 97, []) := sd_aload_n 0 0 0 [] rfl (da dk_Md_look (k := 35) rfl)
theorem k_Md_look_97 : am_Snd gG mt yMd_look 97 (40, 0, 7, 6, 100, []) := sd_getf 0 7 6 [] (da dk_Md_look (k := 36) rfl) rfl (by decide) hin_7 w_656
theorem k_Md_look_100 : am_Snd gG mt yMd_look 100 (1, 0, 1, 0, 101, []) := sd_iload_n 0 1 0 [] rfl (da dk_Md_look (k := 37) rfl)
theorem k_Md_look_101 : am_Snd gG mt yMd_look 101 (42, 0, 0, 0, 102, []) := sd_iald 0 0 0 [] (da dk_Md_look (k := 38) rfl) rfl rfl
theorem k_Md_look_102 : am_Snd gG mt yMd_look 102 (71, 0, 0, 0, 103, []) := sd_iret 0 0 0 103 [] (da dk_Md_look (k := 39) rfl) rfl
theorem k_Md_look_103 : am_Snd gG mt yMd_look 103 (2, 0, 0, 0, 104, []) := sd_aload_n 0 0 0 [] rfl (da dk_Md_look (k := 40) rfl)
theorem k_Md_look_104 : am_Snd gG mt yMd_look 104 (40, 0, 7, 8, 107, []) := sd_getf 0 7 8 [] (da dk_Md_look (k := 41) rfl) rfl (by decide) hin_7 w_658
theorem k_Md_look_107 : am_Snd gG mt yMd_look 107 (1, 0, 1, 0, 108, []) := sd_iload_n 0 1 0 [] rfl (da dk_Md_look (k := 42) rfl)
theorem k_Md_look_108 : am_Snd gG mt yMd_look 108 (42, 0, 0, 0, 109, []) := sd_iald 0 0 0 [] (da dk_Md_look (k := 43) rfl) rfl rfl
theorem k_Md_look_109 : am_Snd gG mt yMd_look 109 (71, 0, 0, 0, 110, []) := sd_iret 0 0 0 110 [] (da dk_Md_look (k := 44) rfl) rfl
theorem k_Md_look_110 : am_Snd gG mt yMd_look 110 (2, 0, 0, 0, 111, []) := sd_aload_n 0 0 0 [] rfl (da dk_Md_look (k := 45) rfl)
theorem k_Md_look_111 : am_Snd gG mt yMd_look 111 (40, 0, 7, 11, 114, []) := sd_getf 0 7 11 [] (da dk_Md_look (k := 46) rfl) rfl (by decide) hin_7 w_661
theorem k_Md_look_114 : am_Snd gG mt yMd_look 114 (1, 0, 1, 0, 115, []) := sd_iload_n 0 1 0 [] rfl (da dk_Md_look (k := 47) rfl)
theorem k_Md_look_115 : am_Snd gG mt yMd_look 115 (42, 0, 1, 0, 116, []) := sd_bald 0 1 0 [] (da dk_Md_look (k := 48) rfl) rfl rfl
theorem k_Md_look_116 : am_Snd gG mt yMd_look 116 (30, 0, 123, 0, 119, []) := sd_if_eq 0 123 [] (da dk_Md_look (k := 49) rfl) (by decide)
theorem k_Md_look_119 : am_Snd gG mt yMd_look 119 (0, 1, 0, 0, 120, []) := sd_iconst 1 0 0 [] (da dk_Md_look (k := 50) rfl)
theorem k_Md_look_120 : am_Snd gG mt yMd_look 120 (26, 0, 124, 0, 123, []) := sd_goto 0 124 0 123 [] (da dk_Md_look (k := 51) rfl) (by decide)
theorem k_Md_look_123 : am_Snd gG mt yMd_look 123 (0, 0, 0, 0, 124, []) := sd_iconst 0 0 0 [] (da dk_Md_look (k := 52) rfl)
theorem k_Md_look_124 : am_Snd gG mt yMd_look 124 (71, 0, 0, 0, 125, []) := sd_iret 0 0 0 125 [] (da dk_Md_look (k := 53) rfl) rfl
theorem k_Md_look_125 : am_Snd gG mt yMd_look 125 (1, 0, 1, 0, 126, []) := sd_iload_n 0 1 0 [] rfl (da dk_Md_look (k := 54) rfl)
theorem k_Md_look_126 : am_Snd gG mt yMd_look 126 (60, 0, 119, 1, 129, []) := sd_callS 0 119 1 [] mt_119 (da dk_Md_look (k := 55) rfl) gG_ok w_851 (List.forall_mem_cons.2 ⟨w_849, List.forall_mem_cons.2 ⟨w_850, List.forall_mem_cons.2 ⟨w_53, fun _ h => absurd h List.not_mem_nil⟩⟩⟩) hd_119 rfl (Nat.le_of_ble_eq_true rfl) (Nat.le_of_ble_eq_true rfl)
theorem k_Md_look_129 : am_Snd gG mt yMd_look 129 (71, 0, 0, 0, 130, []) := sd_iret 0 0 0 130 [] (da dk_Md_look (k := 56) rfl) rfl
set_option maxRecDepth 20000 in
theorem ks_Md_look : ∀ q ∈ tMd_look, am_Snd gG mt yMd_look q.1 q.2 := List.forall_mem_cons.2 ⟨k_Md_look_0, List.forall_mem_cons.2 ⟨k_Md_look_1, List.forall_mem_cons.2 ⟨k_Md_look_4, List.forall_mem_cons.2 ⟨k_Md_look_5, List.forall_mem_cons.2 ⟨k_Md_look_7, List.forall_mem_cons.2 ⟨k_Md_look_10, List.forall_mem_cons.2 ⟨k_Md_look_11, List.forall_mem_cons.2 ⟨k_Md_look_12, List.forall_mem_cons.2 ⟨k_Md_look_13, List.forall_mem_cons.2 ⟨k_Md_look_14, List.forall_mem_cons.2 ⟨k_Md_look_17, List.forall_mem_cons.2 ⟨k_Md_look_20, List.forall_mem_cons.2 ⟨k_Md_look_22, List.forall_mem_cons.2 ⟨k_Md_look_23, List.forall_mem_cons.2 ⟨k_Md_look_24, List.forall_mem_cons.2 ⟨k_Md_look_68, List.forall_mem_cons.2 ⟨k_Md_look_69, List.forall_mem_cons.2 ⟨k_Md_look_72, List.forall_mem_cons.2 ⟨k_Md_look_73, List.forall_mem_cons.2 ⟨k_Md_look_74, List.forall_mem_cons.2 ⟨k_Md_look_75, List.forall_mem_cons.2 ⟨k_Md_look_76, List.forall_mem_cons.2 ⟨k_Md_look_79, List.forall_mem_cons.2 ⟨k_Md_look_80, List.forall_mem_cons.2 ⟨k_Md_look_81, List.forall_mem_cons.2 ⟨k_Md_look_82, List.forall_mem_cons.2 ⟨k_Md_look_83, List.forall_mem_cons.2 ⟨k_Md_look_86, List.forall_mem_cons.2 ⟨k_Md_look_87, List.forall_mem_cons.2 ⟨k_Md_look_88, List.forall_mem_cons.2 ⟨k_Md_look_89, List.forall_mem_cons.2 ⟨k_Md_look_90, List.forall_mem_cons.2 ⟨k_Md_look_93, List.forall_mem_cons.2 ⟨k_Md_look_94, List.forall_mem_cons.2 ⟨k_Md_look_95, List.forall_mem_cons.2 ⟨k_Md_look_96, List.forall_mem_cons.2 ⟨k_Md_look_97, List.forall_mem_cons.2 ⟨k_Md_look_100, List.forall_mem_cons.2 ⟨k_Md_look_101, List.forall_mem_cons.2 ⟨k_Md_look_102, List.forall_mem_cons.2 ⟨k_Md_look_103, List.forall_mem_cons.2 ⟨k_Md_look_104, List.forall_mem_cons.2 ⟨k_Md_look_107, List.forall_mem_cons.2 ⟨k_Md_look_108, List.forall_mem_cons.2 ⟨k_Md_look_109, List.forall_mem_cons.2 ⟨k_Md_look_110, List.forall_mem_cons.2 ⟨k_Md_look_111, List.forall_mem_cons.2 ⟨k_Md_look_114, List.forall_mem_cons.2 ⟨k_Md_look_115, List.forall_mem_cons.2 ⟨k_Md_look_116, List.forall_mem_cons.2 ⟨k_Md_look_119, List.forall_mem_cons.2 ⟨k_Md_look_120, List.forall_mem_cons.2 ⟨k_Md_look_123, List.forall_mem_cons.2 ⟨k_Md_look_124, List.forall_mem_cons.2 ⟨k_Md_look_125, List.forall_mem_cons.2 ⟨k_Md_look_126, List.forall_mem_cons.2 ⟨k_Md_look_129, fun _ h => absurd h List.not_mem_nil⟩⟩⟩⟩⟩⟩⟩⟩⟩⟩⟩⟩⟩⟩⟩⟩⟩⟩⟩⟩⟩⟩⟩⟩⟩⟩⟩⟩⟩⟩⟩⟩⟩⟩⟩⟩⟩⟩⟩⟩⟩⟩⟩⟩⟩⟩⟩⟩⟩⟩⟩⟩⟩⟩⟩⟩⟩
