-- written by prog/gen_code.py: each instruction is sound
def dl_RF_deliver : List (Nat × Instr × Nat) := [(0, .aload_n 0, 1), (1, .iload_n 1, 1), (2, .invokevirtual 96, 3), (5, .astore_n 3, 1), (6, .aload_n 3, 1), (7, .ifnonnull 5, 3), (10, .iconst (-1), 1), (11, .ireturn, 1), (12, .aload_n 0, 1), (13, .getfield 12, 3), (16, .iload_n 2, 1), (17, .invokevirtual 100, 3), (20, .astore 4, 2), (22, .aload 4, 2), (24, .ifnonnull 8, 3), (27, .bipush (-2), 2), (29, .goto 13, 3), (32, .aload_n 3, 1), (33, .aload 4, 2), (35, .aload_n 0, 1), (36, .getfield 12, 3), (39, .invokevirtual 104, 3), (42, .ireturn, 1)]
set_option maxRecDepth 20000 in
theorem dk_RF_deliver : (dl_RF_deliver.all fun q => decide (decode prog_1_method_4_code q.1 = .ok (q.2.1, q.2.2))) = true := by decide +kernel
theorem k_RF_deliver_0 : am_Snd gG mt yRF_deliver 0 (2, 0, 0, 0, 1, []) := sd_aload_n 0 0 0 [] rfl (da dk_RF_deliver (k := 0) rfl)
theorem k_RF_deliver_1 : am_Snd gG mt yRF_deliver 1 (1, 0, 1, 0, 2, []) := sd_iload_n 0 1 0 [] rfl (da dk_RF_deliver (k := 1) rfl)
theorem k_RF_deliver_2 : am_Snd gG mt yRF_deliver 2 (61, 0, 75, 2, 5, [(0, 0)]) := sd_callV 0 75 2 0 mt_75 (da dk_RF_deliver (k := 2) rfl) gG_ok rfl w_571 (List.forall_mem_cons.2 ⟨w_568, List.forall_mem_cons.2 ⟨w_570, List.forall_mem_cons.2 ⟨w_15, List.forall_mem_cons.2 ⟨w_47, fun _ h => absurd h List.not_mem_nil⟩⟩⟩⟩) hd_75 (by decide) rfl (Nat.le_of_ble_eq_true rfl) (Nat.le_of_ble_eq_true rfl)
theorem k_RF_deliver_5 : am_Snd gG mt yRF_deliver 5 (4, 0, 3, 0, 6, []) := sd_astore_n 0 3 0 [] rfl (da dk_RF_deliver (k := 3) rfl)
theorem k_RF_deliver_6 : am_Snd gG mt yRF_deliver 6 (2, 0, 3, 0, 7, []) := sd_aload_n 0 3 0 [] rfl (da dk_RF_deliver (k := 4) rfl)
theorem k_RF_deliver_7 : am_Snd gG mt yRF_deliver 7 (28, 0, 12, 0, 10, []) := sd_ifnonnull 0 12 0 [] (da dk_RF_deliver (k := 5) rfl) (by decide)
theorem k_RF_deliver_10 : am_Snd gG mt yRF_deliver 10 (0, (-1), 0, 0, 11, []) := sd_iconst (-1) 0 0 [] (da dk_RF_deliver (k := 6) rfl)
theorem k_RF_deliver_11 : am_Snd gG mt yRF_deliver 11 (71, 0, 0, 0, 12, []) := sd_iret 0 0 0 12 [] (da dk_RF_deliver (k := 7) rfl) rfl
theorem k_RF_deliver_12 : am_Snd gG mt yRF_deliver 12 (2, 0, 0, 0, 13, []) := sd_aload_n 0 0 0 [] rfl (da dk_RF_deliver (k := 8) rfl)
theorem k_RF_deliver_13 : am_Snd gG mt yRF_deliver 13 (40, 0, 0, 0, 16, []) := sd_getf 0 0 0 [] (da dk_RF_deliver (k := 9) rfl) rfl (by decide) hin_0 w_168
theorem k_RF_deliver_16 : am_Snd gG mt yRF_deliver 16 (1, 0, 2, 0, 17, []) := sd_iload_n 0 2 0 [] rfl (da dk_RF_deliver (k := 10) rfl)
theorem k_RF_deliver_17 : am_Snd gG mt yRF_deliver 17 (61, 0, 14, 2, 20, [(0, 3)]) := sd_callV 0 14 2 3 mt_14 (da dk_RF_deliver (k := 11) rfl) gG_ok rfl w_211 (List.forall_mem_cons.2 ⟨w_572, List.forall_mem_cons.2 ⟨w_209, List.forall_mem_cons.2 ⟨w_210, List.forall_mem_cons.2 ⟨w_48, fun _ h => absurd h List.not_mem_nil⟩⟩⟩⟩) hd_14 (by decide) rfl (Nat.le_of_ble_eq_true rfl) (Nat.le_of_ble_eq_true rfl)
theorem k_RF_deliver_20 : am_Snd gG mt yRF_deliver 20 (4, 0, 4, 0, 22, []) := sd_astore 0 4 0 [] (da dk_RF_deliver (k := 12) rfl)
theorem k_RF_deliver_22 : am_Snd gG mt yRF_deliver 22 (2, 0, 4, 0, 24, []) := sd_aload 0 4 0 [] (da dk_RF_deliver (k := 13) rfl)
theorem k_RF_deliver_24 : am_Snd gG mt yRF_deliver 24 (28, 0, 32, 0, 27, []) := sd_ifnonnull 0 32 0 [] (da dk_RF_deliver (k := 14) rfl) (by decide)
theorem k_RF_deliver_27 : am_Snd gG mt yRF_deliver 27 (0, (-2), 0, 0, 29, []) := sd_bipush (-2) 0 0 [] (da dk_RF_deliver (k := 15) rfl) (by decide)
theorem k_RF_deliver_29 : am_Snd gG mt yRF_deliver 29 (26, 0, 42, 0, 32, []) := sd_goto 0 42 0 32 [] (da dk_RF_deliver (k := 16) rfl) (by decide)
theorem k_RF_deliver_32 : am_Snd gG mt yRF_deliver 32 (2, 0, 3, 0, 33, []) := sd_aload_n 0 3 0 [] rfl (da dk_RF_deliver (k := 17) rfl)
theorem k_RF_deliver_33 : am_Snd gG mt yRF_deliver 33 (2, 0, 4, 0, 35, []) := sd_aload 0 4 0 [] (da dk_RF_deliver (k := 18) rfl)
theorem k_RF_deliver_35 : am_Snd gG mt yRF_deliver 35 (2, 0, 0, 0, 36, []) := sd_aload_n 0 0 0 [] rfl (da dk_RF_deliver (k := 19) rfl)
theorem k_RF_deliver_36 : am_Snd gG mt yRF_deliver 36 (40, 0, 0, 0, 39, []) := sd_getf 0 0 0 [] (da dk_RF_deliver (k := 20) rfl) rfl (by decide) hin_0 w_168
theorem k_RF_deliver_39 : am_Snd gG mt yRF_deliver 39 (61, 0, 67, 3, 42, [(0, 5)]) := sd_callV 0 67 3 5 mt_67 (da dk_RF_deliver (k := 21) rfl) gG_ok rfl w_536 (List.forall_mem_cons.2 ⟨w_533, List.forall_mem_cons.2 ⟨w_534, List.forall_mem_cons.2 ⟨w_535, List.forall_mem_cons.2 ⟨w_52, fun _ h => absurd h List.not_mem_nil⟩⟩⟩⟩) hd_67 (by decide) rfl (Nat.le_of_ble_eq_true rfl) (Nat.le_of_ble_eq_true rfl)
theorem k_RF_deliver_42 : am_Snd gG mt yRF_deliver 42 (71, 0, 0, 0, 43, []) := sd_iret 0 0 0 43 [] (da dk_RF_deliver (k := 22) rfl) rfl
set_option maxRecDepth 20000 in
theorem ks_RF_deliver : ∀ q ∈ tRF_deliver, am_Snd gG mt yRF_deliver q.1 q.2 := List.forall_mem_cons.2 ⟨k_RF_deliver_0, List.forall_mem_cons.2 ⟨k_RF_deliver_1, List.forall_mem_cons.2 ⟨k_RF_deliver_2, List.forall_mem_cons.2 ⟨k_RF_deliver_5, List.forall_mem_cons.2 ⟨k_RF_deliver_6, List.forall_mem_cons.2 ⟨k_RF_deliver_7, List.forall_mem_cons.2 ⟨k_RF_deliver_10, List.forall_mem_cons.2 ⟨k_RF_deliver_11, List.forall_mem_cons.2 ⟨k_RF_deliver_12, List.forall_mem_cons.2 ⟨k_RF_deliver_13, List.forall_mem_cons.2 ⟨k_RF_deliver_16, List.forall_mem_cons.2 ⟨k_RF_deliver_17, List.forall_mem_cons.2 ⟨k_RF_deliver_20, List.forall_mem_cons.2 ⟨k_RF_deliver_22, List.forall_mem_cons.2 ⟨k_RF_deliver_24, List.forall_mem_cons.2 ⟨k_RF_deliver_27, List.forall_mem_cons.2 ⟨k_RF_deliver_29, List.forall_mem_cons.2 ⟨k_RF_deliver_32, List.forall_mem_cons.2 ⟨k_RF_deliver_33, List.forall_mem_cons.2 ⟨k_RF_deliver_35, List.forall_mem_cons.2 ⟨k_RF_deliver_36, List.forall_mem_cons.2 ⟨k_RF_deliver_39, List.forall_mem_cons.2 ⟨k_RF_deliver_42, fun _ h => absurd h List.not_mem_nil⟩⟩⟩⟩⟩⟩⟩⟩⟩⟩⟩⟩⟩⟩⟩⟩⟩⟩⟩⟩⟩⟩⟩
def dl_RF_serverOf : List (Nat × Instr × Nat) := [(0, .iload_n 1, 1), (1, .ifCond .lt 17, 3), (4, .iload_n 1, 1), (5, .iconst 4, 1), (6, .if_icmp .ge 12, 3), (9, .aload_n 0, 1), (10, .getfield 25, 3), (13, .iload_n 1, 1), (14, .aaload, 1), (15, .goto 4, 3), (18, .aconst_null, 1), (19, .areturn, 1)]
set_option maxRecDepth 20000 in
theorem dk_RF_serverOf : (dl_RF_serverOf.all fun q => decide (decode prog_1_method_15_code q.1 = .ok (q.2.1, q.2.2))) = true := by decide +kernel
theorem k_RF_serverOf_0 : am_Snd gG mt yRF_serverOf 0 (1, 0, 1, 0, 1, []) := sd_iload_n 0 1 0 [] rfl (da dk_RF_serverOf (k := 0) rfl)
theorem k_RF_serverOf_1 : am_Snd gG mt yRF_serverOf 1 (30, 0, 18, 2, 4, []) := sd_if_lt 0 18 [] (da dk_RF_serverOf (k := 1) rfl) (by decide)
theorem k_RF_serverOf_4 : am_Snd gG mt yRF_serverOf 4 (1, 0, 1, 0, 5, []) := sd_iload_n 0 1 0 [] rfl (da dk_RF_serverOf (k := 2) rfl)
theorem k_RF_serverOf_5 : am_Snd gG mt yRF_serverOf 5 (0, 4, 0, 0, 6, []) := sd_iconst 4 0 0 [] (da dk_RF_serverOf (k := 3) rfl)
theorem k_RF_serverOf_6 : am_Snd gG mt yRF_serverOf 6 (31, 0, 18, 3, 9, []) := sd_icmp_ge 0 18 [] (da dk_RF_serverOf (k := 4) rfl) (by decide)
theorem k_RF_serverOf_9 : am_Snd gG mt yRF_serverOf 9 (2, 0, 0, 0, 10, []) := sd_aload_n 0 0 0 [] rfl (da dk_RF_serverOf (k := 5) rfl)
theorem k_RF_serverOf_10 : am_Snd gG mt yRF_serverOf 10 (40, 0, 0, 2, 13, []) := sd_getf 0 0 2 [] (da dk_RF_serverOf (k := 6) rfl) rfl (by decide) hin_0 w_170
theorem k_RF_serverOf_13 : am_Snd gG mt yRF_serverOf 13 (1, 0, 1, 0, 14, []) := sd_iload_n 0 1 0 [] rfl (da dk_RF_serverOf (k := 7) rfl)
theorem k_RF_serverOf_14 : am_Snd gG mt yRF_serverOf 14 (44, 0, 4, 0, 15, []) := sd_aald 0 4 0 [] (da dk_RF_serverOf (k := 8) rfl) rfl rfl
theorem k_RF_serverOf_15 : am_Snd gG mt yRF_serverOf 15 (26, 0, 19, 0, 18, []) := sd_goto 0 19 0 18 [] (da dk_RF_serverOf (k := 9) rfl) (by decide)
theorem k_RF_serverOf_18 : am_Snd gG mt yRF_serverOf 18 (18, 0, 0, 0, 19, []) := sd_null 0 0 0 [] (da dk_RF_serverOf (k := 10) rfl)
theorem k_RF_serverOf_19 : am_Snd gG mt yRF_serverOf 19 (73, 0, 0, 0, 20, []) := sd_aret 0 0 0 20 [] (da dk_RF_serverOf (k := 11) rfl) rfl (Or.inl ⟨_, rfl⟩)
set_option maxRecDepth 20000 in
theorem ks_RF_serverOf : ∀ q ∈ tRF_serverOf, am_Snd gG mt yRF_serverOf q.1 q.2 := List.forall_mem_cons.2 ⟨k_RF_serverOf_0, List.forall_mem_cons.2 ⟨k_RF_serverOf_1, List.forall_mem_cons.2 ⟨k_RF_serverOf_4, List.forall_mem_cons.2 ⟨k_RF_serverOf_5, List.forall_mem_cons.2 ⟨k_RF_serverOf_6, List.forall_mem_cons.2 ⟨k_RF_serverOf_9, List.forall_mem_cons.2 ⟨k_RF_serverOf_10, List.forall_mem_cons.2 ⟨k_RF_serverOf_13, List.forall_mem_cons.2 ⟨k_RF_serverOf_14, List.forall_mem_cons.2 ⟨k_RF_serverOf_15, List.forall_mem_cons.2 ⟨k_RF_serverOf_18, List.forall_mem_cons.2 ⟨k_RF_serverOf_19, fun _ h => absurd h List.not_mem_nil⟩⟩⟩⟩⟩⟩⟩⟩⟩⟩⟩⟩
def dl_RF_sync : List (Nat × Instr × Nat) := [(0, .aload_n 0, 1), (1, .iload_n 1, 1), (2, .invokevirtual 96, 3), (5, .astore_n 3, 1), (6, .aload_n 0, 1), (7, .iload_n 2, 1), (8, .invokevirtual 96, 3), (11, .astore 4, 2), (13, .aload_n 3, 1), (14, .ifnull 8, 3), (17, .aload 4, 2), (19, .ifnonnull 5, 3), (22, .iconst (-1), 1), (23, .ireturn, 1), (24, .aload 4, 2), (26, .invokevirtual 108, 3), (29, .istore 5, 2), (31, .iconst 0, 1), (32, .istore 6, 2), (34, .iload 6, 2), (36, .aload_n 0, 1), (37, .getfield 12, 3), (40, .invokevirtual 46, 3), (43, .if_icmp .ge 46, 3), (46, .aload_n 0, 1), (47, .getfield 12, 3), (50, .iload 6, 2), (52, .invokevirtual 100, 3), (55, .astore 7, 2), (57, .aload 7, 2), (59, .ifnull 24, 3), (62, .aload_n 3, 1), (63, .iload 6, 2), (65, .invokevirtual 111, 3), (68, .ifCond .eq 15, 3), (71, .aload 4, 2), (73, .aload 7, 2), (75, .aload_n 0, 1), (76, .getfield 12, 3), (79, .invokevirtual 104, 3), (82, .pop, 1), (83, .iinc 6 1, 3), (86, .goto (-52), 3), (89, .aload 4, 2), (91, .invokevirtual 108, 3), (94, .iload 5, 2), (96, .isub, 1), (97, .ireturn, 1)]
set_option maxRecDepth 20000 in
theorem dk_RF_sync : (dl_RF_sync.all fun q => decide (decode prog_1_method_5_code q.1 = .ok (q.2.1, q.2.2))) = true := by decide +kernel
theorem k_RF_sync_0 : am_Snd gG mt yRF_sync 0 (2, 0, 0, 0, 1, []) := sd_aload_n 0 0 0 [] rfl (da dk_RF_sync (k := 0) rfl)
theorem k_RF_sync_1 : am_Snd gG mt yRF_sync 1 (1, 0, 1, 0, 2, []) := sd_iload_n 0 1 0 [] rfl (da dk_RF_sync (k := 1) rfl)
theorem k_RF_sync_2 : am_Snd gG mt yRF_sync 2 (61, 0, 75, 2, 5, [(0, 0)]) := sd_callV 0 75 2 0 mt_75 (da dk_RF_sync (k := 2) rfl) gG_ok rfl w_571 (List.forall_mem_cons.2 ⟨w_568, List.forall_mem_cons.2 ⟨w_570, List.forall_mem_cons.2 ⟨w_15, List.forall_mem_cons.2 ⟨w_47, fun _ h => absurd h List.not_mem_nil⟩⟩⟩⟩) hd_75 (by decide) rfl (Nat.le_of_ble_eq_true rfl) (Nat.le_of_ble_eq_true rfl)
theorem k_RF_sync_5 : am_Snd gG mt yRF_sync 5 (4, 0, 3, 0, 6, []) := sd_astore_n 0 3 0 [] rfl (da dk_RF_sync (k := 3) rfl)
theorem k_RF_sync_6 : am_Snd gG mt yRF_sync 6 (2, 0, 0, 0, 7, []) := sd_aload_n 0 0 0 [] rfl (da dk_RF_sync (k := 4) rfl)
theorem k_RF_sync_7 : am_Snd gG mt yRF_sync 7 (1, 0, 2, 0, 8, []) := sd_iload_n 0 2 0 [] rfl (da dk_RF_sync (k := 5) rfl)
theorem k_RF_sync_8 : am_Snd gG mt yRF_sync 8 (61, 0, 75, 2, 11, [(0, 0)]) := sd_callV 0 75 2 0 mt_75 (da dk_RF_sync (k := 6) rfl) gG_ok rfl w_571 (List.forall_mem_cons.2 ⟨w_568, List.forall_mem_cons.2 ⟨w_570, List.forall_mem_cons.2 ⟨w_15, List.forall_mem_cons.2 ⟨w_47, fun _ h => absurd h List.not_mem_nil⟩⟩⟩⟩) hd_75 (by decide) rfl (Nat.le_of_ble_eq_true rfl) (Nat.le_of_ble_eq_true rfl)
theorem k_RF_sync_11 : am_Snd gG mt yRF_sync 11 (4, 0, 4, 0, 13, []) := sd_astore 0 4 0 [] (da dk_RF_sync (k := 7) rfl)
theorem k_RF_sync_13 : am_Snd gG mt yRF_sync 13 (2, 0, 3, 0, 14, []) := sd_aload_n 0 3 0 [] rfl (da dk_RF_sync (k := 8) rfl)
theorem k_RF_sync_14 : am_Snd gG mt yRF_sync 14 (27, 0, 22, 0, 17, []) := sd_ifnull 0 22 0 [] (da dk_RF_sync (k := 9) rfl) (by decide)
theorem k_RF_sync_17 : am_Snd gG mt yRF_sync 17 (2, 0, 4, 0, 19, []) := sd_aload 0 4 0 [] (da dk_RF_sync (k := 10) rfl)
theorem k_RF_sync_19 : am_Snd gG mt yRF_sync 19 (28, 0, 24, 0, 22, []) := sd_ifnonnull 0 24 0 [] (da dk_RF_sync (k := 11) rfl) (by decide)
theorem k_RF_sync_22 : am_Snd gG mt yRF_sync 22 (0, (-1), 0, 0, 23, []) := sd_iconst (-1) 0 0 [] (da dk_RF_sync (k := 12) rfl)
theorem k_RF_sync_23 : am_Snd gG mt yRF_sync 23 (71, 0, 0, 0, 24, []) := sd_iret 0 0 0 24 [] (da dk_RF_sync (k := 13) rfl) rfl
theorem k_RF_sync_24 : am_Snd gG mt yRF_sync 24 (2, 0, 4, 0, 26, []) := sd_aload 0 4 0 [] (da dk_RF_sync (k := 14) rfl)
theorem k_RF_sync_26 : am_Snd gG mt yRF_sync 26 (61, 0, 77, 1, 29, [(0, 5)]) := sd_callV 0 77 1 5 mt_77 (da dk_RF_sync (k := 15) rfl) gG_ok rfl w_580 (List.forall_mem_cons.2 ⟨w_577, List.forall_mem_cons.2 ⟨w_578, List.forall_mem_cons.2 ⟨w_579, List.forall_mem_cons.2 ⟨w_52, fun _ h => absurd h List.not_mem_nil⟩⟩⟩⟩) hd_77 (by decide) rfl (Nat.le_of_ble_eq_true rfl) (Nat.le_of_ble_eq_true rfl)
theorem k_RF_sync_29 : am_Snd gG mt yRF_sync 29 (3, 0, 5, 0, 31, []) := sd_istore 0 5 0 [] (da dk_RF_sync (k := 16) rfl)
theorem k_RF_sync_31 : am_Snd gG mt yRF_sync 31 (0, 0, 0, 0, 32, []) := sd_iconst 0 0 0 [] (da dk_RF_sync (k := 17) rfl)
theorem k_RF_sync_32 : am_Snd gG mt yRF_sync 32 (3, 0, 6, 0, 34, []) := sd_istore 0 6 0 [] (da dk_RF_sync (k := 18) rfl)
theorem k_RF_sync_34 : am_Snd gG mt yRF_sync 34 (1, 0, 6, 0, 36, []) := sd_iload 0 6 0 [] (da dk_RF_sync (k := 19) rfl)
theorem k_RF_sync_36 : am_Snd gG mt yRF_sync 36 (2, 0, 0, 0, 37, []) := sd_aload_n 0 0 0 [] rfl (da dk_RF_sync (k := 20) rfl)
theorem k_RF_sync_37 : am_Snd gG mt yRF_sync 37 (40, 0, 0, 0, 40, []) := sd_getf 0 0 0 [] (da dk_RF_sync (k := 21) rfl) rfl (by decide) hin_0 w_168
theorem k_RF_sync_40 : am_Snd gG mt yRF_sync 40 (61, 0, 12, 1, 43, [(0, 3)]) := sd_callV 0 12 1 3 mt_12 (da dk_RF_sync (k := 22) rfl) gG_ok rfl w_203 (List.forall_mem_cons.2 ⟨w_374, List.forall_mem_cons.2 ⟨w_201, List.forall_mem_cons.2 ⟨w_202, List.forall_mem_cons.2 ⟨w_48, fun _ h => absurd h List.not_mem_nil⟩⟩⟩⟩) hd_12 (by decide) rfl (Nat.le_of_ble_eq_true rfl) (Nat.le_of_ble_eq_true rfl)
theorem k_RF_sync_43 : am_Snd gG mt yRF_sync 43 (31, 0, 89, 3, 46, []) := sd_icmp_ge 0 89 [] (da dk_RF_sync (k := 23) rfl) (by decide)
theorem k_RF_sync_46 : am_Snd gG mt yRF_sync 46 (2, 0, 0, 0, 47, []) := sd_aload_n 0 0 0 [] rfl (da dk_RF_sync (k := 24) rfl)
theorem k_RF_sync_47 : am_Snd gG mt yRF_sync 47 (40, 0, 0, 0, 50, []) := sd_getf 0 0 0 [] (da dk_RF_sync (k := 25) rfl) rfl (by decide) hin_0 w_168
theorem k_RF_sync_50 : am_Snd gG mt yRF_sync 50 (1, 0, 6, 0, 52, []) := sd_iload 0 6 0 [] (da dk_RF_sync (k := 26) rfl)
theorem k_RF_sync_52 : am_Snd gG mt yRF_sync 52 (61, 0, 14, 2, 55, [(0, 3)]) := sd_callV 0 14 2 3 mt_14 (da dk_RF_sync (k := 27) rfl) gG_ok rfl w_211 (List.forall_mem_cons.2 ⟨w_572, List.forall_mem_cons.2 ⟨w_209, List.forall_mem_cons.2 ⟨w_210, List.forall_mem_cons.2 ⟨w_48, fun _ h => absurd h List.not_mem_nil⟩⟩⟩⟩) hd_14 (by decide) rfl (Nat.le_of_ble_eq_true rfl) (Nat.le_of_ble_eq_true rfl)
theorem k_RF_sync_55 : am_Snd gG mt yRF_sync 55 (4, 0, 7, 0, 57, []) := sd_astore 0 7 0 [] (da dk_RF_sync (k := 28) rfl)
theorem k_RF_sync_57 : am_Snd gG mt yRF_sync 57 (2, 0, 7, 0, 59, []) := sd_aload 0 7 0 [] (da dk_RF_sync (k := 29) rfl)
theorem k_RF_sync_59 : am_Snd gG mt yRF_sync 59 (27, 0, 83, 0, 62, []) := sd_ifnull 0 83 0 [] (da dk_RF_sync (k := 30) rfl) (by decide)
theorem k_RF_sync_62 : am_Snd gG mt yRF_sync 62 (2, 0, 3, 0, 63, []) := sd_aload_n 0 3 0 [] rfl (da dk_RF_sync (k := 31) rfl)
theorem k_RF_sync_63 : am_Snd gG mt yRF_sync 63 (1, 0, 6, 0, 65, []) := sd_iload 0 6 0 [] (da dk_RF_sync (k := 32) rfl)
theorem k_RF_sync_65 : am_Snd gG mt yRF_sync 65 (61, 0, 78, 2, 68, [(0, 5)]) := sd_callV 0 78 2 5 mt_78 (da dk_RF_sync (k := 33) rfl) gG_ok rfl w_584 (List.forall_mem_cons.2 ⟨w_581, List.forall_mem_cons.2 ⟨w_582, List.forall_mem_cons.2 ⟨w_583, List.forall_mem_cons.2 ⟨w_52, fun _ h => absurd h List.not_mem_nil⟩⟩⟩⟩) hd_78 (by decide) rfl (Nat.le_of_ble_eq_true rfl) (Nat.le_of_ble_eq_true rfl)
theorem k_RF_sync_68 : am_Snd gG mt yRF_sync 68 (30, 0, 83, 0, 71, []) := sd_if_eq 0 83 [] (da dk_RF_sync (k := 34) rfl) (by decide)
theorem k_RF_sync_71 : am_Snd gG mt yRF_sync 71 (2, 0, 4, 0, 73, []) := sd_aload 0 4 0 [] (da dk_RF_sync (k := 35) rfl)
theorem k_RF_sync_73 : am_Snd gG mt yRF_sync 73 (2, 0, 7, 0, 75, []) := sd_aload 0 7 0 [] (da dk_RF_sync (k := 36) rfl)
theorem k_RF_sync_75 : am_Snd gG mt yRF_sync 75 (2, 0, 0, 0, 76, []) := sd_aload_n 0 0 0 [] rfl (da dk_RF_sync (k := 37) rfl)
theorem k_RF_sync_76 : am_Snd gG mt yRF_sync 76 (40, 0, 0, 0, 79, []) := sd_getf 0 0 0 [] (da dk_RF_sync (k := 38) rfl) rfl (by decide) hin_0 w_168
theorem k_RF_sync_79 : am_Snd gG mt yRF_sync 79 (61, 0, 67, 3, 82, [(0, 5)]) := sd_callV 0 67 3 5 mt_67 (da dk_RF_sync (k := 39) rfl) gG_ok rfl w_536 (List.forall_mem_cons.2 ⟨w_533, List.forall_mem_cons.2 ⟨w_534, List.forall_mem_cons.2 ⟨w_535, List.forall_mem_cons.2 ⟨w_52, fun _ h => absurd h List.not_mem_nil⟩⟩⟩⟩) hd_67 (by decide) rfl (Nat.le_of_ble_eq_true rfl) (Nat.le_of_ble_eq_true rfl)
theorem k_RF_sync_82 : am_Snd gG mt yRF_sync 82 (16, 0, 0, 0, 83, []) := sd_pop 0 0 0 [] (da dk_RF_sync (k := 40) rfl)
theorem k_RF_sync_83 : am_Snd gG mt yRF_sync 83 (5, 1, 6, 0, 86, []) := sd_iinc 1 6 0 [] (da dk_RF_sync (k := 41) rfl)
theorem k_RF_sync_86 : am_Snd gG mt yRF_sync 86 (26, 0, 34, 0, 89, []) := sd_goto 0 34 0 89 [] (da dk_RF_sync (k := 42) rfl) (by decide)
theorem k_RF_sync_89 : am_Snd gG mt yRF_sync 89 (2, 0, 4, 0, 91, []) := sd_aload 0 4 0 [] (da dk_RF_sync (k := 43) rfl)
theorem k_RF_sync_91 : am_Snd gG mt yRF_sync 91 (61, 0, 77, 1, 94, [(0, 5)]) := sd_callV 0 77 1 5 mt_77 (da dk_RF_sync (k := 44) rfl) gG_ok rfl w_580 (List.forall_mem_cons.2 ⟨w_577, List.forall_mem_cons.2 ⟨w_578, List.forall_mem_cons.2 ⟨w_579, List.forall_mem_cons.2 ⟨w_52, fun _ h => absurd h List.not_mem_nil⟩⟩⟩⟩) hd_77 (by decide) rfl (Nat.le_of_ble_eq_true rfl) (Nat.le_of_ble_eq_true rfl)
theorem k_RF_sync_94 : am_Snd gG mt yRF_sync 94 (1, 0, 5, 0, 96, []) := sd_iload 0 5 0 [] (da dk_RF_sync (k := 45) rfl)
theorem k_RF_sync_96 : am_Snd gG mt yRF_sync 96 (7, 0, 0, 0, 97, []) := sd_isub 0 0 0 [] (da dk_RF_sync (k := 46) rfl)
theorem k_RF_sync_97 : am_Snd gG mt yRF_sync 97 (71, 0, 0, 0, 98, []) := sd_iret 0 0 0 98 [] (da dk_RF_sync (k := 47) rfl) rfl
set_option maxRecDepth 20000 in
theorem ks_RF_sync : ∀ q ∈ tRF_sync, am_Snd gG mt yRF_sync q.1 q.2 := List.forall_mem_cons.2 ⟨k_RF_sync_0, List.forall_mem_cons.2 ⟨k_RF_sync_1, List.forall_mem_cons.2 ⟨k_RF_sync_2, List.forall_mem_cons.2 ⟨k_RF_sync_5, List.forall_mem_cons.2 ⟨k_RF_sync_6, List.forall_mem_cons.2 ⟨k_RF_sync_7, List.forall_mem_cons.2 ⟨k_RF_sync_8, List.forall_mem_cons.2 ⟨k_RF_sync_11, List.forall_mem_cons.2 ⟨k_RF_sync_13, List.forall_mem_cons.2 ⟨k_RF_sync_14, List.forall_mem_cons.2 ⟨k_RF_sync_17, List.forall_mem_cons.2 ⟨k_RF_sync_19, List.forall_mem_cons.2 ⟨k_RF_sync_22, List.forall_mem_cons.2 ⟨k_RF_sync_23, List.forall_mem_cons.2 ⟨k_RF_sync_24, List.forall_mem_cons.2 ⟨k_RF_sync_26, List.forall_mem_cons.2 ⟨k_RF_sync_29, List.forall_mem_cons.2 ⟨k_RF_sync_31, List.forall_mem_cons.2 ⟨k_RF_sync_32, List.forall_mem_cons.2 ⟨k_RF_sync_34, List.forall_mem_cons.2 ⟨k_RF_sync_36, List.forall_mem_cons.2 ⟨k_RF_sync_37, List.forall_mem_cons.2 ⟨k_RF_sync_40, List.forall_mem_cons.2 ⟨k_RF_sync_43, List.forall_mem_cons.2 ⟨k_RF_sync_46, List.forall_mem_cons.2 ⟨k_RF_sync_47, List.forall_mem_cons.2 ⟨k_RF_sync_50, List.forall_mem_cons.2 ⟨k_RF_sync_52, List.forall_mem_cons.2 ⟨k_RF_sync_55, List.forall_mem_cons.2 ⟨k_RF_sync_57, List.forall_mem_cons.2 ⟨k_RF_sync_59, List.forall_mem_cons.2 ⟨k_RF_sync_62, List.forall_mem_cons.2 ⟨k_RF_sync_63, List.forall_mem_cons.2 ⟨k_RF_sync_65, List.forall_mem_cons.2 ⟨k_RF_sync_68, List.forall_mem_cons.2 ⟨k_RF_sync_71, List.forall_mem_cons.2 ⟨k_RF_sync_73, List.forall_mem_cons.2 ⟨k_RF_sync_75, List.forall_mem_cons.2 ⟨k_RF_sync_76, List.forall_mem_cons.2 ⟨k_RF_sync_79, List.forall_mem_cons.2 ⟨k_RF_sync_82, List.forall_mem_cons.2 ⟨k_RF_sync_83, List.forall_mem_cons.2 ⟨k_RF_sync_86, List.forall_mem_cons.2 ⟨k_RF_sync_89, List.forall_mem_cons.2 ⟨k_RF_sync_91, List.forall_mem_cons.2 ⟨k_RF_sync_94, List.forall_mem_cons.2 ⟨k_RF_sync_96, List.forall_mem_cons.2 ⟨k_RF_sync_97, fun _ h => absurd h List.not_mem_nil⟩⟩⟩⟩⟩⟩⟩⟩⟩⟩⟩⟩⟩⟩⟩⟩⟩⟩⟩⟩⟩⟩⟩⟩⟩⟩⟩⟩⟩⟩⟩⟩⟩⟩⟩⟩⟩⟩⟩⟩⟩⟩⟩⟩⟩⟩⟩⟩
def dl_Server_knownCount : List (Nat × Instr × Nat) := [(0, .aload_n 0, 1), (1, .getfield 12, 3), (4, .invokevirtual 32, 3), (7, .ireturn, 1)]
set_option maxRecDepth 20000 in
theorem dk_Server_knownCount : (dl_Server_knownCount.all fun q => decide (decode prog_7_method_4_code q.1 = .ok (q.2.1, q.2.2))) = true := by decide +kernel
theorem k_Server_knownCount_0 : am_Snd gG mt yServer_knownCount 0 (2, 0, 0, 0, 1, []) := sd_aload_n 0 0 0 [] rfl (da dk_Server_knownCount (k := 0) rfl)
theorem k_Server_knownCount_1 : am_Snd gG mt yServer_knownCount 1 (40, 0, 5, 0, 4, []) := sd_getf 0 5 0 [] (da dk_Server_knownCount (k := 1) rfl) rfl (by decide) hin_5 w_154
theorem k_Server_knownCount_4 : am_Snd gG mt yServer_knownCount 4 (61, 2, 58, 1, 7, [(0, 2)]) := sd_callV 2 58 1 2 mt_58 (da dk_Server_knownCount (k := 2) rfl) gG_ok rfl w_477 (List.forall_mem_cons.2 ⟨w_474, List.forall_mem_cons.2 ⟨w_475, List.forall_mem_cons.2 ⟨w_476, List.forall_mem_cons.2 ⟨w_51, fun _ h => absurd h List.not_mem_nil⟩⟩⟩⟩) hd_58 (by decide) rfl (Nat.le_of_ble_eq_true rfl) (Nat.le_of_ble_eq_true rfl)
theorem k_Server_knownCount_7 : am_Snd gG mt yServer_knownCount 7 (71, 0, 0, 0, 8, []) := sd_iret 0 0 0 8 [] (da dk_Server_knownCount (k := 3) rfl) rfl
set_option maxRecDepth 20000 in
theorem ks_Server_knownCount : ∀ q ∈ tServer_knownCount, am_Snd gG mt yServer_knownCount q.1 q.2 := List.forall_mem_cons.2 ⟨k_Server_knownCount_0, List.forall_mem_cons.2 ⟨k_Server_knownCount_1, List.forall_mem_cons.2 ⟨k_Server_knownCount_4, List.forall_mem_cons.2 ⟨k_Server_knownCount_7, fun _ h => absurd h List.not_mem_nil⟩⟩⟩⟩
def dl_Server_hasKnown : List (Nat × Instr × Nat) := [(0, .aload_n 0, 1), (1, .getfield 12, 3), (4, .iload_n 1, 1), (5, .invokevirtual 28, 3), (8, .ireturn, 1)]
set_option maxRecDepth 20000 in
theorem dk_Server_hasKnown : (dl_Server_hasKnown.all fun q => decide (decode prog_7_method_2_code q.1 = .ok (q.2.1, q.2.2))) = true := by decide +kernel
theorem k_Server_hasKnown_0 : am_Snd gG mt yServer_hasKnown 0 (2, 0, 0, 0, 1, []) := sd_aload_n 0 0 0 [] rfl (da dk_Server_hasKnown (k := 0) rfl)
theorem k_Server_hasKnown_1 : am_Snd gG mt yServer_hasKnown 1 (40, 0, 5, 0, 4, []) := sd_getf 0 5 0 [] (da dk_Server_hasKnown (k := 1) rfl) rfl (by decide) hin_5 w_154
theorem k_Server_hasKnown_4 : am_Snd gG mt yServer_hasKnown 4 (1, 0, 1, 0, 5, []) := sd_iload_n 0 1 0 [] rfl (da dk_Server_hasKnown (k := 2) rfl)
theorem k_Server_hasKnown_5 : am_Snd gG mt yServer_hasKnown 5 (61, 0, 13, 2, 8, [(0, 2)]) := sd_callV 0 13 2 2 mt_13 (da dk_Server_hasKnown (k := 3) rfl) gG_ok rfl w_207 (List.forall_mem_cons.2 ⟨w_204, List.forall_mem_cons.2 ⟨w_205, List.forall_mem_cons.2 ⟨w_206, List.forall_mem_cons.2 ⟨w_51, fun _ h => absurd h List.not_mem_nil⟩⟩⟩⟩) hd_13 (by decide) rfl (Nat.le_of_ble_eq_true rfl) (Nat.le_of_ble_eq_true rfl)
theorem k_Server_hasKnown_8 : am_Snd gG mt yServer_hasKnown 8 (72, 0, 0, 0, 9, []) := sd_zret 0 0 0 9 [] (da dk_Server_hasKnown (k := 4) rfl) rfl
set_option maxRecDepth 20000 in
theorem ks_Server_hasKnown : ∀ q ∈ tServer_hasKnown, am_Snd gG mt yServer_hasKnown q.1 q.2 := List.forall_mem_cons.2 ⟨k_Server_hasKnown_0, List.forall_mem_cons.2 ⟨k_Server_hasKnown_1, List.forall_mem_cons.2 ⟨k_Server_hasKnown_4, List.forall_mem_cons.2 ⟨k_Server_hasKnown_5, List.forall_mem_cons.2 ⟨k_Server_hasKnown_8, fun _ h => absurd h List.not_mem_nil⟩⟩⟩⟩⟩
def dl_RF_state : List (Nat × Instr × Nat) := [(0, .aload_n 0, 1), (1, .iload_n 1, 1), (2, .invokevirtual 96, 3), (5, .astore 4, 2), (7, .aload 4, 2), (9, .ifnull 11, 3), (12, .iload_n 2, 1), (13, .iload_n 3, 1), (14, .invokestatic 114, 3), (17, .ifCond .ne 5, 3), (20, .iconst (-1), 1), (21, .ireturn, 1), (22, .aload_n 0, 1), (23, .getfield 19, 3), (26, .aload 4, 2), (28, .aload_n 0, 1), (29, .getfield 12, 3), (32, .invokevirtual 40, 3), (35, .iload_n 2, 1), (36, .iload_n 3, 1), (37, .invokestatic 118, 3), (40, .ireturn, 1)]
set_option maxRecDepth 20000 in
theorem dk_RF_state : (dl_RF_state.all fun q => decide (decode prog_1_method_6_code q.1 = .ok (q.2.1, q.2.2))) = true := by decide +kernel
theorem k_RF_state_0 : am_Snd gG mt yRF_state 0 (2, 0, 0, 0, 1, []) := sd_aload_n 0 0 0 [] rfl (da dk_RF_state (k := 0) rfl)
theorem k_RF_state_1 : am_Snd gG mt yRF_state 1 (1, 0, 1, 0, 2, []) := sd_iload_n 0 1 0 [] rfl (da dk_RF_state (k := 1) rfl)
theorem k_RF_state_2 : am_Snd gG mt yRF_state 2 (61, 0, 75, 2, 5, [(0, 0)]) := sd_callV 0 75 2 0 mt_75 (da dk_RF_state (k := 2) rfl) gG_ok rfl w_571 (List.forall_mem_cons.2 ⟨w_568, List.forall_mem_cons.2 ⟨w_570, List.forall_mem_cons.2 ⟨w_15, List.forall_mem_cons.2 ⟨w_47, fun _ h => absurd h List.not_mem_nil⟩⟩⟩⟩) hd_75 (by decide) rfl (Nat.le_of_ble_eq_true rfl) (Nat.le_of_ble_eq_true rfl)
theorem k_RF_state_5 : am_Snd gG mt yRF_state 5 (4, 0, 4, 0, 7, []) := sd_astore 0 4 0 [] (da dk_RF_state (k := 3) rfl)
theorem k_RF_state_7 : am_Snd gG mt yRF_state 7 (2, 0, 4, 0, 9, []) := sd_aload 0 4 0 [] (da dk_RF_state (k := 4) rfl)
theorem k_RF_state_9 : am_Snd gG mt yRF_state 9 (27, 0, 20, 0, 12, []) := sd_ifnull 0 20 0 [] (da dk_RF_state (k := 5) rfl) (by decide)
theorem k_RF_state_12 : am_Snd gG mt yRF_state 12 (1, 0, 2, 0, 13, []) := sd_iload_n 0 2 0 [] rfl (da dk_RF_state (k := 6) rfl)
theorem k_RF_state_13 : am_Snd gG mt yRF_state 13 (1, 0, 3, 0, 14, []) := sd_iload_n 0 3 0 [] rfl (da dk_RF_state (k := 7) rfl)
theorem k_RF_state_14 : am_Snd gG mt yRF_state 14 (60, 0, 80, 2, 17, []) := sd_callS 0 80 2 [] mt_80 (da dk_RF_state (k := 8) rfl) gG_ok w_591 (List.forall_mem_cons.2 ⟨w_589, List.forall_mem_cons.2 ⟨w_590, List.forall_mem_cons.2 ⟨w_47, fun _ h => absurd h List.not_mem_nil⟩⟩⟩) hd_80 rfl (Nat.le_of_ble_eq_true rfl) (Nat.le_of_ble_eq_true rfl)
theorem k_RF_state_17 : am_Snd gG mt yRF_state 17 (30, 0, 22, 1, 20, []) := sd_if_ne 0 22 [] (da dk_RF_state (k := 9) rfl) (by decide)
theorem k_RF_state_20 : am_Snd gG mt yRF_state 20 (0, (-1), 0, 0, 21, []) := sd_iconst (-1) 0 0 [] (da dk_RF_state (k := 10) rfl)
theorem k_RF_state_21 : am_Snd gG mt yRF_state 21 (71, 0, 0, 0, 22, []) := sd_iret 0 0 0 22 [] (da dk_RF_state (k := 11) rfl) rfl
theorem k_RF_state_22 : am_Snd gG mt yRF_state 22 (2, 0, 0, 0, 23, []) := sd_aload_n 0 0 0 [] rfl (da dk_RF_state (k := 12) rfl)
theorem k_RF_state_23 : am_Snd gG mt yRF_state 23 (40, 0, 0, 1, 26, []) := sd_getf 0 0 1 [] (da dk_RF_state (k := 13) rfl) rfl (by decide) hin_0 w_169
theorem k_RF_state_26 : am_Snd gG mt yRF_state 26 (2, 0, 4, 0, 28, []) := sd_aload 0 4 0 [] (da dk_RF_state (k := 14) rfl)
theorem k_RF_state_28 : am_Snd gG mt yRF_state 28 (2, 0, 0, 0, 29, []) := sd_aload_n 0 0 0 [] rfl (da dk_RF_state (k := 15) rfl)
theorem k_RF_state_29 : am_Snd gG mt yRF_state 29 (40, 0, 0, 0, 32, []) := sd_getf 0 0 0 [] (da dk_RF_state (k := 16) rfl) rfl (by decide) hin_0 w_168
theorem k_RF_state_32 : am_Snd gG mt yRF_state 32 (61, 0, 10, 3, 35, [(0, 4)]) := sd_callV 0 10 3 4 mt_10 (da dk_RF_state (k := 17) rfl) gG_ok rfl w_195 (List.forall_mem_cons.2 ⟨w_192, List.forall_mem_cons.2 ⟨w_193, List.forall_mem_cons.2 ⟨w_194, List.forall_mem_cons.2 ⟨w_49, fun _ h => absurd h List.not_mem_nil⟩⟩⟩⟩) hd_10 (by decide) rfl (Nat.le_of_ble_eq_true rfl) (Nat.le_of_ble_eq_true rfl)
theorem k_RF_state_35 : am_Snd gG mt yRF_state 35 (1, 0, 2, 0, 36, []) := sd_iload_n 0 2 0 [] rfl (da dk_RF_state (k := 18) rfl)
theorem k_RF_state_36 : am_Snd gG mt yRF_state 36 (1, 0, 3, 0, 37, []) := sd_iload_n 0 3 0 [] rfl (da dk_RF_state (k := 19) rfl)
theorem k_RF_state_37 : am_Snd gG mt yRF_state 37 (60, 1, 81, 3, 40, []) := sd_callS 1 81 3 [] mt_81 (da dk_RF_state (k := 20) rfl) gG_ok w_595 (List.forall_mem_cons.2 ⟨w_593, List.forall_mem_cons.2 ⟨w_594, List.forall_mem_cons.2 ⟨w_47, fun _ h => absurd h List.not_mem_nil⟩⟩⟩) hd_81 rfl (Nat.le_of_ble_eq_true rfl) (Nat.le_of_ble_eq_true rfl)
theorem k_RF_state_40 : am_Snd gG mt yRF_state 40 (71, 0, 0, 0, 41, []) := sd_iret 0 0 0 41 [] (da dk_RF_state (k := 21) rfl) rfl
set_option maxRecDepth 20000 in
theorem ks_RF_state : ∀ q ∈ tRF_state, am_Snd gG mt yRF_state q.1 q.2 := List.forall_mem_cons.2 ⟨k_RF_state_0, List.forall_mem_cons.2 ⟨k_RF_state_1, List.forall_mem_cons.2 ⟨k_RF_state_2, List.forall_mem_cons.2 ⟨k_RF_state_5, List.forall_mem_cons.2 ⟨k_RF_state_7, List.forall_mem_cons.2 ⟨k_RF_state_9, List.forall_mem_cons.2 ⟨k_RF_state_12, List.forall_mem_cons.2 ⟨k_RF_state_13, List.forall_mem_cons.2 ⟨k_RF_state_14, List.forall_mem_cons.2 ⟨k_RF_state_17, List.forall_mem_cons.2 ⟨k_RF_state_20, List.forall_mem_cons.2 ⟨k_RF_state_21, List.forall_mem_cons.2 ⟨k_RF_state_22, List.forall_mem_cons.2 ⟨k_RF_state_23, List.forall_mem_cons.2 ⟨k_RF_state_26, List.forall_mem_cons.2 ⟨k_RF_state_28, List.forall_mem_cons.2 ⟨k_RF_state_29, List.forall_mem_cons.2 ⟨k_RF_state_32, List.forall_mem_cons.2 ⟨k_RF_state_35, List.forall_mem_cons.2 ⟨k_RF_state_36, List.forall_mem_cons.2 ⟨k_RF_state_37, List.forall_mem_cons.2 ⟨k_RF_state_40, fun _ h => absurd h List.not_mem_nil⟩⟩⟩⟩⟩⟩⟩⟩⟩⟩⟩⟩⟩⟩⟩⟩⟩⟩⟩⟩⟩⟩
def dl_RF_isStateKey : List (Nat × Instr × Nat) := [(0, .iload_n 0, 1), (1, .ifCond .lt 19, 3), (4, .iload_n 0, 1), (5, .iconst 4, 1), (6, .if_icmp .gt 14, 3), (9, .iload_n 1, 1), (10, .invokestatic 152, 3), (13, .ifCond .eq 7, 3), (16, .iconst 1, 1), (17, .goto 4, 3), (20, .iconst 0, 1), (21, .ireturn, 1)]
set_option maxRecDepth 20000 in
theorem dk_RF_isStateKey : (dl_RF_isStateKey.all fun q => decide (decode prog_1_method_16_code q.1 = .ok (q.2.1, q.2.2))) = true := by decide +kernel
theorem k_RF_isStateKey_0 : am_Snd gG mt yRF_isStateKey 0 (1, 0, 0, 0, 1, []) := sd_iload_n 0 0 0 [] rfl (da dk_RF_isStateKey (k := 0) rfl)
theorem k_RF_isStateKey_1 : am_Snd gG mt yRF_isStateKey 1 (30, 0, 20, 2, 4, []) := sd_if_lt 0 20 [] (da dk_RF_isStateKey (k := 1) rfl) (by decide)
theorem k_RF_isStateKey_4 : am_Snd gG mt yRF_isStateKey 4 (1, 0, 0, 0, 5, []) := sd_iload_n 0 0 0 [] rfl (da dk_RF_isStateKey (k := 2) rfl)
theorem k_RF_isStateKey_5 : am_Snd gG mt yRF_isStateKey 5 (0, 4, 0, 0, 6, []) := sd_iconst 4 0 0 [] (da dk_RF_isStateKey (k := 3) rfl)
theorem k_RF_isStateKey_6 : am_Snd gG mt yRF_isStateKey 6 (31, 0, 20, 4, 9, []) := sd_icmp_gt 0 20 [] (da dk_RF_isStateKey (k := 4) rfl) (by decide)
theorem k_RF_isStateKey_9 : am_Snd gG mt yRF_isStateKey 9 (1, 0, 1, 0, 10, []) := sd_iload_n 0 1 0 [] rfl (da dk_RF_isStateKey (k := 5) rfl)
theorem k_RF_isStateKey_10 : am_Snd gG mt yRF_isStateKey 10 (60, 0, 8, 1, 13, []) := sd_callS 0 8 1 [] mt_8 (da dk_RF_isStateKey (k := 6) rfl) gG_ok w_187 (List.forall_mem_cons.2 ⟨w_592, List.forall_mem_cons.2 ⟨w_186, List.forall_mem_cons.2 ⟨w_54, fun _ h => absurd h List.not_mem_nil⟩⟩⟩) hd_8 rfl (Nat.le_of_ble_eq_true rfl) (Nat.le_of_ble_eq_true rfl)
theorem k_RF_isStateKey_13 : am_Snd gG mt yRF_isStateKey 13 (30, 0, 20, 0, 16, []) := sd_if_eq 0 20 [] (da dk_RF_isStateKey (k := 7) rfl) (by decide)
theorem k_RF_isStateKey_16 : am_Snd gG mt yRF_isStateKey 16 (0, 1, 0, 0, 17, []) := sd_iconst 1 0 0 [] (da dk_RF_isStateKey (k := 8) rfl)
theorem k_RF_isStateKey_17 : am_Snd gG mt yRF_isStateKey 17 (26, 0, 21, 0, 20, []) := sd_goto 0 21 0 20 [] (da dk_RF_isStateKey (k := 9) rfl) (by decide)
theorem k_RF_isStateKey_20 : am_Snd gG mt yRF_isStateKey 20 (0, 0, 0, 0, 21, []) := sd_iconst 0 0 0 [] (da dk_RF_isStateKey (k := 10) rfl)
theorem k_RF_isStateKey_21 : am_Snd gG mt yRF_isStateKey 21 (72, 0, 0, 0, 22, []) := sd_zret 0 0 0 22 [] (da dk_RF_isStateKey (k := 11) rfl) rfl
set_option maxRecDepth 20000 in
theorem ks_RF_isStateKey : ∀ q ∈ tRF_isStateKey, am_Snd gG mt yRF_isStateKey q.1 q.2 := List.forall_mem_cons.2 ⟨k_RF_isStateKey_0, List.forall_mem_cons.2 ⟨k_RF_isStateKey_1, List.forall_mem_cons.2 ⟨k_RF_isStateKey_4, List.forall_mem_cons.2 ⟨k_RF_isStateKey_5, List.forall_mem_cons.2 ⟨k_RF_isStateKey_6, List.forall_mem_cons.2 ⟨k_RF_isStateKey_9, List.forall_mem_cons.2 ⟨k_RF_isStateKey_10, List.forall_mem_cons.2 ⟨k_RF_isStateKey_13, List.forall_mem_cons.2 ⟨k_RF_isStateKey_16, List.forall_mem_cons.2 ⟨k_RF_isStateKey_17, List.forall_mem_cons.2 ⟨k_RF_isStateKey_20, List.forall_mem_cons.2 ⟨k_RF_isStateKey_21, fun _ h => absurd h List.not_mem_nil⟩⟩⟩⟩⟩⟩⟩⟩⟩⟩⟩⟩
def dl_RF_numberIn : List (Nat × Instr × Nat) := [(0, .aload_n 0, 1), (1, .iload_n 1, 1), (2, .iload_n 2, 1), (3, .invokestatic 179, 3), (6, .invokevirtual 183, 3), (9, .astore_n 3, 1), (10, .aload_n 3, 1), (11, .ifnonnull 8, 3), (14, .bipush (-2), 2), (16, .goto 7, 3), (19, .aload_n 3, 1), (20, .getfield 176, 3), (23, .ireturn, 1)]
set_option maxRecDepth 20000 in
theorem dk_RF_numberIn : (dl_RF_numberIn.all fun q => decide (decode prog_1_method_17_code q.1 = .ok (q.2.1, q.2.2))) = true := by decide +kernel
theorem k_RF_numberIn_0 : am_Snd gG mt yRF_numberIn 0 (2, 0, 0, 0, 1, []) := sd_aload_n 0 0 0 [] rfl (da dk_RF_numberIn (k := 0) rfl)
theorem k_RF_numberIn_1 : am_Snd gG mt yRF_numberIn 1 (1, 0, 1, 0, 2, []) := sd_iload_n 0 1 0 [] rfl (da dk_RF_numberIn (k := 1) rfl)
theorem k_RF_numberIn_2 : am_Snd gG mt yRF_numberIn 2 (1, 0, 2, 0, 3, []) := sd_iload_n 0 2 0 [] rfl (da dk_RF_numberIn (k := 2) rfl)
theorem k_RF_numberIn_3 : am_Snd gG mt yRF_numberIn 3 (60, 0, 55, 2, 6, []) := sd_callS 0 55 2 [] mt_55 (da dk_RF_numberIn (k := 3) rfl) gG_ok w_386 (List.forall_mem_cons.2 ⟨w_596, List.forall_mem_cons.2 ⟨w_385, List.forall_mem_cons.2 ⟨w_50, fun _ h => absurd h List.not_mem_nil⟩⟩⟩) hd_55 rfl (Nat.le_of_ble_eq_true rfl) (Nat.le_of_ble_eq_true rfl)
theorem k_RF_numberIn_6 : am_Snd gG mt yRF_numberIn 6 (61, 0, 40, 2, 9, [(0, 6)]) := sd_callV 0 40 2 6 mt_40 (da dk_RF_numberIn (k := 4) rfl) gG_ok rfl w_319 (List.forall_mem_cons.2 ⟨w_597, List.forall_mem_cons.2 ⟨w_317, List.forall_mem_cons.2 ⟨w_318, List.forall_mem_cons.2 ⟨w_50, fun _ h => absurd h List.not_mem_nil⟩⟩⟩⟩) hd_40 (by decide) rfl (Nat.le_of_ble_eq_true rfl) (Nat.le_of_ble_eq_true rfl)
theorem k_RF_numberIn_9 : am_Snd gG mt yRF_numberIn 9 (4, 0, 3, 0, 10, []) := sd_astore_n 0 3 0 [] rfl (da dk_RF_numberIn (k := 5) rfl)
theorem k_RF_numberIn_10 : am_Snd gG mt yRF_numberIn 10 (2, 0, 3, 0, 11, []) := sd_aload_n 0 3 0 [] rfl (da dk_RF_numberIn (k := 6) rfl)
theorem k_RF_numberIn_11 : am_Snd gG mt yRF_numberIn 11 (28, 0, 19, 0, 14, []) := sd_ifnonnull 0 19 0 [] (da dk_RF_numberIn (k := 7) rfl) (by decide)
theorem k_RF_numberIn_14 : am_Snd gG mt yRF_numberIn 14 (0, (-2), 0, 0, 16, []) := sd_bipush (-2) 0 0 [] (da dk_RF_numberIn (k := 8) rfl) (by decide)
theorem k_RF_numberIn_16 : am_Snd gG mt yRF_numberIn 16 (26, 0, 23, 0, 19, []) := sd_goto 0 23 0 19 [] (da dk_RF_numberIn (k := 9) rfl) (by decide)
theorem k_RF_numberIn_19 : am_Snd gG mt yRF_numberIn 19 (2, 0, 3, 0, 20, []) := sd_aload_n 0 3 0 [] rfl (da dk_RF_numberIn (k := 10) rfl)
theorem k_RF_numberIn_20 : am_Snd gG mt yRF_numberIn 20 (40, 0, 1, 0, 23, []) := sd_getf 0 1 0 [] (da dk_RF_numberIn (k := 11) rfl) rfl (by decide) hin_1 w_391
theorem k_RF_numberIn_23 : am_Snd gG mt yRF_numberIn 23 (71, 0, 0, 0, 24, []) := sd_iret 0 0 0 24 [] (da dk_RF_numberIn (k := 12) rfl) rfl
set_option maxRecDepth 20000 in
theorem ks_RF_numberIn : ∀ q ∈ tRF_numberIn, am_Snd gG mt yRF_numberIn q.1 q.2 := List.forall_mem_cons.2 ⟨k_RF_numberIn_0, List.forall_mem_cons.2 ⟨k_RF_numberIn_1, List.forall_mem_cons.2 ⟨k_RF_numberIn_2, List.forall_mem_cons.2 ⟨k_RF_numberIn_3, List.forall_mem_cons.2 ⟨k_RF_numberIn_6, List.forall_mem_cons.2 ⟨k_RF_numberIn_9, List.forall_mem_cons.2 ⟨k_RF_numberIn_10, List.forall_mem_cons.2 ⟨k_RF_numberIn_11, List.forall_mem_cons.2 ⟨k_RF_numberIn_14, List.forall_mem_cons.2 ⟨k_RF_numberIn_16, List.forall_mem_cons.2 ⟨k_RF_numberIn_19, List.forall_mem_cons.2 ⟨k_RF_numberIn_20, List.forall_mem_cons.2 ⟨k_RF_numberIn_23, fun _ h => absurd h List.not_mem_nil⟩⟩⟩⟩⟩⟩⟩⟩⟩⟩⟩⟩⟩
def dl_RF_before : List (Nat × Instr × Nat) := [(0, .iload_n 2, 1), (1, .iload_n 3, 1), (2, .invokestatic 114, 3), (5, .ifCond .ne 5, 3), (8, .iconst (-1), 1), (9, .ireturn, 1), (10, .aload_n 0, 1), (11, .getfield 12, 3), (14, .iload_n 1, 1), (15, .invokevirtual 100, 3), (18, .astore 4, 2), (20, .aload 4, 2), (22, .ifnonnull 8, 3), (25, .bipush (-2), 2), (27, .goto 13, 3), (30, .aload 4, 2), (32, .getfield 122, 3), (35, .iload_n 2, 1), (36, .iload_n 3, 1), (37, .invokestatic 118, 3), (40, .ireturn, 1)]
set_option maxRecDepth 20000 in
theorem dk_RF_before : (dl_RF_before.all fun q => decide (decode prog_1_method_7_code q.1 = .ok (q.2.1, q.2.2))) = true := by decide +kernel
theorem k_RF_before_0 : am_Snd gG mt yRF_before 0 (1, 0, 2, 0, 1, []) := sd_iload_n 0 2 0 [] rfl (da dk_RF_before (k := 0) rfl)
theorem k_RF_before_1 : am_Snd gG mt yRF_before 1 (1, 0, 3, 0, 2, []) := sd_iload_n 0 3 0 [] rfl (da dk_RF_before (k := 1) rfl)
theorem k_RF_before_2 : am_Snd gG mt yRF_before 2 (60, 0, 80, 2, 5, []) := sd_callS 0 80 2 [] mt_80 (da dk_RF_before (k := 2) rfl) gG_ok w_591 (List.forall_mem_cons.2 ⟨w_589, List.forall_mem_cons.2 ⟨w_590, List.forall_mem_cons.2 ⟨w_47, fun _ h => absurd h List.not_mem_nil⟩⟩⟩) hd_80 rfl (Nat.le_of_ble_eq_true rfl) (Nat.le_of_ble_eq_true rfl)
theorem k_RF_before_5 : am_Snd gG mt yRF_before 5 (30, 0, 10, 1, 8, []) := sd_if_ne 0 10 [] (da dk_RF_before (k := 3) rfl) (by decide)
theorem k_RF_before_8 : am_Snd gG mt yRF_before 8 (0, (-1), 0, 0, 9, []) := sd_iconst (-1) 0 0 [] (da dk_RF_before (k := 4) rfl)
theorem k_RF_before_9 : am_Snd gG mt yRF_before 9 (71, 0, 0, 0, 10, []) := sd_iret 0 0 0 10 [] (da dk_RF_before (k := 5) rfl) rfl
theorem k_RF_before_10 : am_Snd gG mt yRF_before 10 (2, 0, 0, 0, 11, []) := sd_aload_n 0 0 0 [] rfl (da dk_RF_before (k := 6) rfl)
theorem k_RF_before_11 : am_Snd gG mt yRF_before 11 (40, 0, 0, 0, 14, []) := sd_getf 0 0 0 [] (da dk_RF_before (k := 7) rfl) rfl (by decide) hin_0 w_168
theorem k_RF_before_14 : am_Snd gG mt yRF_before 14 (1, 0, 1, 0, 15, []) := sd_iload_n 0 1 0 [] rfl (da dk_RF_before (k := 8) rfl)
theorem k_RF_before_15 : am_Snd gG mt yRF_before 15 (61, 0, 14, 2, 18, [(0, 3)]) := sd_callV 0 14 2 3 mt_14 (da dk_RF_before (k := 9) rfl) gG_ok rfl w_211 (List.forall_mem_cons.2 ⟨w_572, List.forall_mem_cons.2 ⟨w_209, List.forall_mem_cons.2 ⟨w_210, List.forall_mem_cons.2 ⟨w_48, fun _ h => absurd h List.not_mem_nil⟩⟩⟩⟩) hd_14 (by decide) rfl (Nat.le_of_ble_eq_true rfl) (Nat.le_of_ble_eq_true rfl)
theorem k_RF_before_18 : am_Snd gG mt yRF_before 18 (4, 0, 4, 0, 20, []) := sd_astore 0 4 0 [] (da dk_RF_before (k := 10) rfl)
theorem k_RF_before_20 : am_Snd gG mt yRF_before 20 (2, 0, 4, 0, 22, []) := sd_aload 0 4 0 [] (da dk_RF_before (k := 11) rfl)
theorem k_RF_before_22 : am_Snd gG mt yRF_before 22 (28, 0, 30, 0, 25, []) := sd_ifnonnull 0 30 0 [] (da dk_RF_before (k := 12) rfl) (by decide)
theorem k_RF_before_25 : am_Snd gG mt yRF_before 25 (0, (-2), 0, 0, 27, []) := sd_bipush (-2) 0 0 [] (da dk_RF_before (k := 13) rfl) (by decide)
theorem k_RF_before_27 : am_Snd gG mt yRF_before 27 (26, 0, 40, 0, 30, []) := sd_goto 0 40 0 30 [] (da dk_RF_before (k := 14) rfl) (by decide)
theorem k_RF_before_30 : am_Snd gG mt yRF_before 30 (2, 0, 4, 0, 32, []) := sd_aload 0 4 0 [] (da dk_RF_before (k := 15) rfl)
theorem k_RF_before_32 : am_Snd gG mt yRF_before 32 (40, 0, 1, 13, 35, []) := sd_getf 0 1 13 [] (da dk_RF_before (k := 16) rfl) rfl (by decide) hin_1 w_427
theorem k_RF_before_35 : am_Snd gG mt yRF_before 35 (1, 0, 2, 0, 36, []) := sd_iload_n 0 2 0 [] rfl (da dk_RF_before (k := 17) rfl)
theorem k_RF_before_36 : am_Snd gG mt yRF_before 36 (1, 0, 3, 0, 37, []) := sd_iload_n 0 3 0 [] rfl (da dk_RF_before (k := 18) rfl)
theorem k_RF_before_37 : am_Snd gG mt yRF_before 37 (60, 1, 81, 3, 40, []) := sd_callS 1 81 3 [] mt_81 (da dk_RF_before (k := 19) rfl) gG_ok w_595 (List.forall_mem_cons.2 ⟨w_593, List.forall_mem_cons.2 ⟨w_594, List.forall_mem_cons.2 ⟨w_47, fun _ h => absurd h List.not_mem_nil⟩⟩⟩) hd_81 rfl (Nat.le_of_ble_eq_true rfl) (Nat.le_of_ble_eq_true rfl)
theorem k_RF_before_40 : am_Snd gG mt yRF_before 40 (71, 0, 0, 0, 41, []) := sd_iret 0 0 0 41 [] (da dk_RF_before (k := 20) rfl) rfl
set_option maxRecDepth 20000 in
theorem ks_RF_before : ∀ q ∈ tRF_before, am_Snd gG mt yRF_before q.1 q.2 := List.forall_mem_cons.2 ⟨k_RF_before_0, List.forall_mem_cons.2 ⟨k_RF_before_1, List.forall_mem_cons.2 ⟨k_RF_before_2, List.forall_mem_cons.2 ⟨k_RF_before_5, List.forall_mem_cons.2 ⟨k_RF_before_8, List.forall_mem_cons.2 ⟨k_RF_before_9, List.forall_mem_cons.2 ⟨k_RF_before_10, List.forall_mem_cons.2 ⟨k_RF_before_11, List.forall_mem_cons.2 ⟨k_RF_before_14, List.forall_mem_cons.2 ⟨k_RF_before_15, List.forall_mem_cons.2 ⟨k_RF_before_18, List.forall_mem_cons.2 ⟨k_RF_before_20, List.forall_mem_cons.2 ⟨k_RF_before_22, List.forall_mem_cons.2 ⟨k_RF_before_25, List.forall_mem_cons.2 ⟨k_RF_before_27, List.forall_mem_cons.2 ⟨k_RF_before_30, List.forall_mem_cons.2 ⟨k_RF_before_32, List.forall_mem_cons.2 ⟨k_RF_before_35, List.forall_mem_cons.2 ⟨k_RF_before_36, List.forall_mem_cons.2 ⟨k_RF_before_37, List.forall_mem_cons.2 ⟨k_RF_before_40, fun _ h => absurd h List.not_mem_nil⟩⟩⟩⟩⟩⟩⟩⟩⟩⟩⟩⟩⟩⟩⟩⟩⟩⟩⟩⟩⟩
def dl_RF_look : List (Nat × Instr × Nat) := [(0, .iload_n 2, 1), (1, .ifCond .lt 9, 3), (4, .iload_n 2, 1), (5, .bipush 7, 2), (7, .if_icmp .le 5, 3), (10, .iconst (-1), 1), (11, .ireturn, 1), (12, .aload_n 0, 1), (13, .getfield 12, 3), (16, .iload_n 1, 1), (17, .invokevirtual 100, 3), (20, .astore_n 3, 1), (21, .aload_n 3, 1), (22, .ifnonnull 6, 3), (25, .bipush (-2), 2), (27, .ireturn, 1), (28, .iload_n 2, 1), (29, .tableswitch 90 0 6 #[43, 48, 53, 58, 63, 69, 77], 43), (72, .aload_n 3, 1), (73, .getfield 126, 3), (76, .ireturn, 1), (77, .aload_n 3, 1), (78, .getfield 130, 3), (81, .ireturn, 1), (82, .aload_n 3, 1), (83, .getfield 133, 3), (86, .ireturn, 1), (87, .aload_n 3, 1), (88, .getfield 136, 3), (91, .ireturn, 1), (92, .aload_n 3, 1), (93, .getfield 76, 3), (96, .arraylength, 1), (97, .ireturn, 1), (98, .aload_n 3, 1), (99, .getfield 139, 3), (102, .invokevirtual 142, 3), (105, .ireturn, 1), (106, .aload_n 3, 1), (107, .getfield 145, 3), (110, .ifCond .eq 7, 3), (113, .iconst 1, 1), (114, .goto 4, 3), (117, .iconst 0, 1), (118, .ireturn, 1), (119, .aload_n 3, 1), (120, .getfield 149, 3), (123, .ireturn, 1)]
set_option maxRecDepth 20000 in
theorem dk_RF_look : (dl_RF_look.all fun q => decide (decode prog_1_method_8_code q.1 = .ok (q.2.1, q.2.2))) = true := by decide +kernel
theorem k_RF_look_0 : am_Snd gG mt yRF_look 0 (1, 0, 2, 0, 1, []) := sd_iload_n 0 2 0 [] rfl (da dk_RF_look (k := 0) rfl)
theorem k_RF_look_1 : am_Snd gG mt yRF_look 1 (30, 0, 10, 2, 4, []) := sd_if_lt 0 10 [] (da dk_RF_look (k := 1) rfl) (by decide)
theorem k_RF_look_4 : am_Snd gG mt yRF_look 4 (1, 0, 2, 0, 5, []) := sd_iload_n 0 2 0 [] rfl (da dk_RF_look (k := 2) rfl)
theorem k_RF_look_5 : am_Snd gG mt yRF_look 5 (0, 7, 0, 0, 7, []) := sd_bipush 7 0 0 [] (da dk_RF_look (k := 3) rfl) (by decide)
theorem k_RF_look_7 : am_Snd gG mt yRF_look 7 (31, 0, 12, 5, 10, []) := sd_icmp_le 0 12 [] (da dk_RF_look (k := 4) rfl) (by decide)
theorem k_RF_look_10 : am_Snd gG mt yRF_look 10 (0, (-1), 0, 0, 11, []) := sd_iconst (-1) 0 0 [] (da dk_RF_look (k := 5) rfl)
theorem k_RF_look_11 : am_Snd gG mt yRF_look 11 (71, 0, 0, 0, 12, []) := sd_iret 0 0 0 12 [] (da dk_RF_look (k := 6) rfl) rfl
theorem k_RF_look_12 : am_Snd gG mt yRF_look 12 (2, 0, 0, 0, 13, []) := sd_aload_n 0 0 0 [] rfl (da dk_RF_look (k := 7) rfl)
theorem k_RF_look_13 : am_Snd gG mt yRF_look 13 (40, 0, 0, 0, 16, []) := sd_getf 0 0 0 [] (da dk_RF_look (k := 8) rfl) rfl (by decide) hin_0 w_168
theorem k_RF_look_16 : am_Snd gG mt yRF_look 16 (1, 0, 1, 0, 17, []) := sd_iload_n 0 1 0 [] rfl (da dk_RF_look (k := 9) rfl)
theorem k_RF_look_17 : am_Snd gG mt yRF_look 17 (61, 0, 14, 2, 20, [(0, 3)]) := sd_callV 0 14 2 3 mt_14 (da dk_RF_look (k := 10) rfl) gG_ok rfl w_211 (List.forall_mem_cons.2 ⟨w_572, List.forall_mem_cons.2 ⟨w_209, List.forall_mem_cons.2 ⟨w_210, List.forall_mem_cons.2 ⟨w_48, fun _ h => absurd h List.not_mem_nil⟩⟩⟩⟩) hd_14 (by decide) rfl (Nat.le_of_ble_eq_true rfl) (Nat.le_of_ble_eq_true rfl)
theorem k_RF_look_20 : am_Snd gG mt yRF_look 20 (4, 0, 3, 0, 21, []) := sd_astore_n 0 3 0 [] rfl (da dk_RF_look (k := 11) rfl)
theorem k_RF_look_21 : am_Snd gG mt yRF_look 21 (2, 0, 3, 0, 22, []) := sd_aload_n 0 3 0 [] rfl (da dk_RF_look (k := 12) rfl)
theorem k_RF_look_22 : am_Snd gG mt yRF_look 22 (28, 0, 28, 0, 25, []) := sd_ifnonnull 0 28 0 [] (da dk_RF_look (k := 13) rfl) (by decide)
theorem k_RF_look_25 : am_Snd gG mt yRF_look 25 (0, (-2), 0, 0, 27, []) := sd_bipush (-2) 0 0 [] (da dk_RF_look (k := 14) rfl) (by decide)
theorem k_RF_look_27 : am_Snd gG mt yRF_look 27 (71, 0, 0, 0, 28, []) := sd_iret 0 0 0 28 [] (da dk_RF_look (k := 15) rfl) rfl
theorem k_RF_look_28 : am_Snd gG mt yRF_look 28 (1, 0, 2, 0, 29, []) := sd_iload_n 0 2 0 [] rfl (da dk_RF_look (k := 16) rfl)
theorem k_RF_look_29 : am_Snd gG mt yRF_look 29 (34, 0, 119, 0, 72, [(0, 72), (1, 77), (2, 82), (3, 87), (4, 92), (5, 98), (6, 106)]) := sd_table 0 119 0 72 [(0, 72), (1, 77), (2, 82), (3, 87), (4, 92), (5, 98), (6, 106)] (da dk_RF_look (k := 17) rfl) (by decide) (by decide) (by decide)
theorem k_RF_look_72 : am_Snd gG mt yRF_look 72 (2, 0, 3, 0, 73, []) := sd_aload_n 0 3 0 [] rfl (da dk_RF_look (k := 18) rfl)
theorem k_RF_look_73 : am_Snd gG mt yRF_look 73 (40, 0, 1, 1, 76, []) := sd_getf 0 1 1 [] (da dk_RF_look (k := 19) rfl) rfl (by decide) hin_1 w_394
theorem k_RF_look_76 : am_Snd gG mt yRF_look 76 (71, 0, 0, 0, 77, []) := sd_iret 0 0 0 77 [] (da dk_RF_look (k := 20) rfl) rfl
theorem k_RF_look_77 : am_Snd gG mt yRF_look 77 (2, 0, 3, 0, 78, []) := sd_aload_n 0 3 0 [] rfl (da dk_RF_look (k := 21) rfl)
theorem k_RF_look_78 : am_Snd gG mt yRF_look 78 (40, 0, 1, 2, 81, []) := sd_getf 0 1 2 [] (da dk_RF_look (k := 22) rfl) rfl (by decide) hin_1 w_398
theorem k_RF_look_81 : am_Snd gG mt yRF_look 81 (71, 0, 0, 0, 82, []) := sd_iret 0 0 0 82 [] (da dk_RF_look (k := 23) rfl) rfl
theorem k_RF_look_82 : am_Snd gG mt yRF_look 82 (2, 0, 3, 0, 83, []) := sd_aload_n 0 3 0 [] rfl (da dk_RF_look (k := 24) rfl)
theorem k_RF_look_83 : am_Snd gG mt yRF_look 83 (40, 0, 1, 3, 86, []) := sd_getf 0 1 3 [] (da dk_RF_look (k := 25) rfl) rfl (by decide) hin_1 w_401
theorem k_RF_look_86 : am_Snd gG mt yRF_look 86 (71, 0, 0, 0, 87, []) := sd_iret 0 0 0 87 [] (da dk_RF_look (k := 26) rfl) rfl
theorem k_RF_look_87 : am_Snd gG mt yRF_look 87 (2, 0, 3, 0, 88, []) := sd_aload_n 0 3 0 [] rfl (da dk_RF_look (k := 27) rfl)
theorem k_RF_look_88 : am_Snd gG mt yRF_look 88 (40, 0, 1, 4, 91, []) := sd_getf 0 1 4 [] (da dk_RF_look (k := 28) rfl) rfl (by decide) hin_1 w_404
theorem k_RF_look_91 : am_Snd gG mt yRF_look 91 (71, 0, 0, 0, 92, []) := sd_iret 0 0 0 92 [] (da dk_RF_look (k := 29) rfl) rfl
theorem k_RF_look_92 : am_Snd gG mt yRF_look 92 (2, 0, 3, 0, 93, []) := sd_aload_n 0 3 0 [] rfl (da dk_RF_look (k := 30) rfl)
theorem k_RF_look_93 : am_Snd gG mt yRF_look 93 (40, 0, 1, 9, 96, []) := sd_getf 0 1 9 [] (da dk_RF_look (k := 31) rfl) rfl (by decide) hin_1 w_415
theorem k_RF_look_96 : am_Snd gG mt yRF_look 96 (50, 0, 0, 0, 97, []) := sd_alen 0 0 0 [] (da dk_RF_look (k := 32) rfl)
theorem k_RF_look_97 : am_Snd gG mt yRF_look 97 (71, 0, 0, 0, 98, []) := sd_iret 0 0 0 98 [] (da dk_RF_look (k := 33) rfl) rfl
theorem k_RF_look_98 : am_Snd gG mt yRF_look 98 (2, 0, 3, 0, 99, []) := sd_aload_n 0 3 0 [] rfl (da dk_RF_look (k := 34) rfl)
theorem k_RF_look_99 : am_Snd gG mt yRF_look 99 (40, 0, 1, 10, 102, []) := sd_getf 0 1 10 [] (da dk_RF_look (k := 35) rfl) rfl (by decide) hin_1 w_419
theorem k_RF_look_102 : am_Snd gG mt yRF_look 102 (61, 2, 84, 1, 105, [(0, 6)]) := sd_callV 2 84 1 6 mt_84 (da dk_RF_look (k := 36) rfl) gG_ok rfl w_609 (List.forall_mem_cons.2 ⟨w_606, List.forall_mem_cons.2 ⟨w_607, List.forall_mem_cons.2 ⟨w_608, List.forall_mem_cons.2 ⟨w_50, fun _ h => absurd h List.not_mem_nil⟩⟩⟩⟩) hd_84 (by decide) rfl (Nat.le_of_ble_eq_true rfl) (Nat.le_of_ble_eq_true rfl)
theorem k_RF_look_105 : am_Snd gG mt yRF_look 105 (71, 0, 0, 0, 106, []) := sd_iret 0 0 0 106 [] (da dk_RF_look (k := 37) rfl) rfl
theorem k_RF_look_106 : am_Snd gG mt yRF_look 106 (2, 0, 3, 0, 107, []) := sd_aload_n 0 3 0 [] rfl (da dk_RF_look (k := 38) rfl)
theorem k_RF_look_107 : am_Snd gG mt yRF_look 107 (40, 0, 1, 15, 110, []) := sd_getf 0 1 15 [] (da dk_RF_look (k := 39) rfl) rfl (by decide) hin_1 w_431
theorem k_RF_look_110 : am_Snd gG mt yRF_look 110 (30, 0, 117, 0, 113, []) := sd_if_eq 0 117 [] (da dk_RF_look (k := 40) rfl) (by decide)
theorem k_RF_look_113 : am_Snd gG mt yRF_look 113 (0, 1, 0, 0, 114, []) := sd_iconst 1 0 0 [] (da dk_RF_look (k := 41) rfl)
theorem k_RF_look_114 : am_Snd gG mt yRF_look 114 (26, 0, 118, 0, 117, []) := sd_goto 0 118 0 117 [] (da dk_RF_look (k := 42) rfl) (by decide)
theorem k_RF_look_117 : am_Snd gG mt yRF_look 117 (0, 0, 0, 0, 118, []) := sd_iconst 0 0 0 [] (da dk_RF_look (k := 43) rfl)
theorem k_RF_look_118 : am_Snd gG mt yRF_look 118 (71, 0, 0, 0, 119, []) := sd_iret 0 0 0 119 [] (da dk_RF_look (k := 44) rfl) rfl
theorem k_RF_look_119 : am_Snd gG mt yRF_look 119 (2, 0, 3, 0, 120, []) := sd_aload_n 0 3 0 [] rfl (da dk_RF_look (k := 45) rfl)
theorem k_RF_look_120 : am_Snd gG mt yRF_look 120 (40, 0, 1, 6, 123, []) := sd_getf 0 1 6 [] (da dk_RF_look (k := 46) rfl) rfl (by decide) hin_1 w_408
theorem k_RF_look_123 : am_Snd gG mt yRF_look 123 (71, 0, 0, 0, 124, []) := sd_iret 0 0 0 124 [] (da dk_RF_look (k := 47) rfl) rfl
set_option maxRecDepth 20000 in
theorem ks_RF_look : ∀ q ∈ tRF_look, am_Snd gG mt yRF_look q.1 q.2 := List.forall_mem_cons.2 ⟨k_RF_look_0, List.forall_mem_cons.2 ⟨k_RF_look_1, List.forall_mem_cons.2 ⟨k_RF_look_4, List.forall_mem_cons.2 ⟨k_RF_look_5, List.forall_mem_cons.2 ⟨k_RF_look_7, List.forall_mem_cons.2 ⟨k_RF_look_10, List.forall_mem_cons.2 ⟨k_RF_look_11, List.forall_mem_cons.2 ⟨k_RF_look_12, List.forall_mem_cons.2 ⟨k_RF_look_13, List.forall_mem_cons.2 ⟨k_RF_look_16, List.forall_mem_cons.2 ⟨k_RF_look_17, List.forall_mem_cons.2 ⟨k_RF_look_20, List.forall_mem_cons.2 ⟨k_RF_look_21, List.forall_mem_cons.2 ⟨k_RF_look_22, List.forall_mem_cons.2 ⟨k_RF_look_25, List.forall_mem_cons.2 ⟨k_RF_look_27, List.forall_mem_cons.2 ⟨k_RF_look_28, List.forall_mem_cons.2 ⟨k_RF_look_29, List.forall_mem_cons.2 ⟨k_RF_look_72, List.forall_mem_cons.2 ⟨k_RF_look_73, List.forall_mem_cons.2 ⟨k_RF_look_76, List.forall_mem_cons.2 ⟨k_RF_look_77, List.forall_mem_cons.2 ⟨k_RF_look_78, List.forall_mem_cons.2 ⟨k_RF_look_81, List.forall_mem_cons.2 ⟨k_RF_look_82, List.forall_mem_cons.2 ⟨k_RF_look_83, List.forall_mem_cons.2 ⟨k_RF_look_86, List.forall_mem_cons.2 ⟨k_RF_look_87, List.forall_mem_cons.2 ⟨k_RF_look_88, List.forall_mem_cons.2 ⟨k_RF_look_91, List.forall_mem_cons.2 ⟨k_RF_look_92, List.forall_mem_cons.2 ⟨k_RF_look_93, List.forall_mem_cons.2 ⟨k_RF_look_96, List.forall_mem_cons.2 ⟨k_RF_look_97, List.forall_mem_cons.2 ⟨k_RF_look_98, List.forall_mem_cons.2 ⟨k_RF_look_99, List.forall_mem_cons.2 ⟨k_RF_look_102, List.forall_mem_cons.2 ⟨k_RF_look_105, List.forall_mem_cons.2 ⟨k_RF_look_106, List.forall_mem_cons.2 ⟨k_RF_look_107, List.forall_mem_cons.2 ⟨k_RF_look_110, List.forall_mem_cons.2 ⟨k_RF_look_113, List.forall_mem_cons.2 ⟨k_RF_look_114, List.forall_mem_cons.2 ⟨k_RF_look_117, List.forall_mem_cons.2 ⟨k_RF_look_118, List.forall_mem_cons.2 ⟨k_RF_look_119, List.forall_mem_cons.2 ⟨k_RF_look_120, List.forall_mem_cons.2 ⟨k_RF_look_123, fun _ h => absurd h List.not_mem_nil⟩⟩⟩⟩⟩⟩⟩⟩⟩⟩⟩⟩⟩⟩⟩⟩⟩⟩⟩⟩⟩⟩⟩⟩⟩⟩⟩⟩⟩⟩⟩⟩⟩⟩⟩⟩⟩⟩⟩⟩⟩⟩⟩⟩⟩⟩⟩⟩
def dl_State_size : List (Nat × Instr × Nat) := [(0, .iconst 0, 1), (1, .istore_n 1, 1), (2, .iconst 0, 1), (3, .istore_n 2, 1), (4, .iload_n 2, 1), (5, .bipush 23, 2), (7, .if_icmp .ge 26, 3), (10, .iload_n 1, 1), (11, .aload_n 0, 1), (12, .getfield 11, 3), (15, .iload_n 2, 1), (16, .aaload, 1), (17, .ifnonnull 7, 3), (20, .iconst 0, 1), (21, .goto 4, 3), (24, .iconst 1, 1), (25, .iadd, 1), (26, .istore_n 1, 1), (27, .iinc 2 1, 3), (30, .goto (-26), 3), (33, .iload_n 1, 1), (34, .ireturn, 1)]
set_option maxRecDepth 20000 in
theorem dk_State_size : (dl_State_size.all fun q => decide (decode prog_8_method_12_code q.1 = .ok (q.2.1, q.2.2))) = true := by decide +kernel
theorem k_State_size_0 : am_Snd gG mt yState_size 0 (0, 0, 0, 0, 1, []) := sd_iconst 0 0 0 [] (da dk_State_size (k := 0) rfl)
theorem k_State_size_1 : am_Snd gG mt yState_size 1 (3, 0, 1, 0, 2, []) := sd_istore_n 0 1 0 [] rfl (da dk_State_size (k := 1) rfl)
theorem k_State_size_2 : am_Snd gG mt yState_size 2 (0, 0, 0, 0, 3, []) := sd_iconst 0 0 0 [] (da dk_State_size (k := 2) rfl)
theorem k_State_size_3 : am_Snd gG mt yState_size 3 (3, 0, 2, 0, 4, []) := sd_istore_n 0 2 0 [] rfl (da dk_State_size (k := 3) rfl)
theorem k_State_size_4 : am_Snd gG mt yState_size 4 (1, 0, 2, 0, 5, []) := sd_iload_n 0 2 0 [] rfl (da dk_State_size (k := 4) rfl)
theorem k_State_size_5 : am_Snd gG mt yState_size 5 (0, 23, 0, 0, 7, []) := sd_bipush 23 0 0 [] (da dk_State_size (k := 5) rfl) (by decide)
theorem k_State_size_7 : am_Snd gG mt yState_size 7 (31, 0, 33, 3, 10, []) := sd_icmp_ge 0 33 [] (da dk_State_size (k := 6) rfl) (by decide)
theorem k_State_size_10 : am_Snd gG mt yState_size 10 (1, 0, 1, 0, 11, []) := sd_iload_n 0 1 0 [] rfl (da dk_State_size (k := 7) rfl)
theorem k_State_size_11 : am_Snd gG mt yState_size 11 (2, 0, 0, 0, 12, []) := sd_aload_n 0 0 0 [] rfl (da dk_State_size (k := 8) rfl)
theorem k_State_size_12 : am_Snd gG mt yState_size 12 (40, 0, 6, 0, 15, []) := sd_getf 0 6 0 [] (da dk_State_size (k := 9) rfl) rfl (by decide) hin_6 w_94
theorem k_State_size_15 : am_Snd gG mt yState_size 15 (1, 0, 2, 0, 16, []) := sd_iload_n 0 2 0 [] rfl (da dk_State_size (k := 10) rfl)
theorem k_State_size_16 : am_Snd gG mt yState_size 16 (44, 0, 3, 0, 17, []) := sd_aald 0 3 0 [] (da dk_State_size (k := 11) rfl) rfl rfl
theorem k_State_size_17 : am_Snd gG mt yState_size 17 (28, 0, 24, 0, 20, []) := sd_ifnonnull 0 24 0 [] (da dk_State_size (k := 12) rfl) (by decide)
theorem k_State_size_20 : am_Snd gG mt yState_size 20 (0, 0, 0, 0, 21, []) := sd_iconst 0 0 0 [] (da dk_State_size (k := 13) rfl)
theorem k_State_size_21 : am_Snd gG mt yState_size 21 (26, 0, 25, 0, 24, []) := sd_goto 0 25 0 24 [] (da dk_State_size (k := 14) rfl) (by decide)
theorem k_State_size_24 : am_Snd gG mt yState_size 24 (0, 1, 0, 0, 25, []) := sd_iconst 1 0 0 [] (da dk_State_size (k := 15) rfl)
theorem k_State_size_25 : am_Snd gG mt yState_size 25 (6, 0, 0, 0, 26, []) := sd_iadd 0 0 0 [] (da dk_State_size (k := 16) rfl)
theorem k_State_size_26 : am_Snd gG mt yState_size 26 (3, 0, 1, 0, 27, []) := sd_istore_n 0 1 0 [] rfl (da dk_State_size (k := 17) rfl)
theorem k_State_size_27 : am_Snd gG mt yState_size 27 (5, 1, 2, 0, 30, []) := sd_iinc 1 2 0 [] (da dk_State_size (k := 18) rfl)
theorem k_State_size_30 : am_Snd gG mt yState_size 30 (26, 0, 4, 0, 33, []) := sd_goto 0 4 0 33 [] (da dk_State_size (k := 19) rfl) (by decide)
theorem k_State_size_33 : am_Snd gG mt yState_size 33 (1, 0, 1, 0, 34, []) := sd_iload_n 0 1 0 [] rfl (da dk_State_size (k := 20) rfl)
theorem k_State_size_34 : am_Snd gG mt yState_size 34 (71, 0, 0, 0, 35, []) := sd_iret 0 0 0 35 [] (da dk_State_size (k := 21) rfl) rfl
set_option maxRecDepth 20000 in
theorem ks_State_size : ∀ q ∈ tState_size, am_Snd gG mt yState_size q.1 q.2 := List.forall_mem_cons.2 ⟨k_State_size_0, List.forall_mem_cons.2 ⟨k_State_size_1, List.forall_mem_cons.2 ⟨k_State_size_2, List.forall_mem_cons.2 ⟨k_State_size_3, List.forall_mem_cons.2 ⟨k_State_size_4, List.forall_mem_cons.2 ⟨k_State_size_5, List.forall_mem_cons.2 ⟨k_State_size_7, List.forall_mem_cons.2 ⟨k_State_size_10, List.forall_mem_cons.2 ⟨k_State_size_11, List.forall_mem_cons.2 ⟨k_State_size_12, List.forall_mem_cons.2 ⟨k_State_size_15, List.forall_mem_cons.2 ⟨k_State_size_16, List.forall_mem_cons.2 ⟨k_State_size_17, List.forall_mem_cons.2 ⟨k_State_size_20, List.forall_mem_cons.2 ⟨k_State_size_21, List.forall_mem_cons.2 ⟨k_State_size_24, List.forall_mem_cons.2 ⟨k_State_size_25, List.forall_mem_cons.2 ⟨k_State_size_26, List.forall_mem_cons.2 ⟨k_State_size_27, List.forall_mem_cons.2 ⟨k_State_size_30, List.forall_mem_cons.2 ⟨k_State_size_33, List.forall_mem_cons.2 ⟨k_State_size_34, fun _ h => absurd h List.not_mem_nil⟩⟩⟩⟩⟩⟩⟩⟩⟩⟩⟩⟩⟩⟩⟩⟩⟩⟩⟩⟩⟩⟩
def dl_RF_level : List (Nat × Instr × Nat) := [(0, .aload_n 0, 1), (1, .iload_n 1, 1), (2, .invokevirtual 96, 3), (5, .astore_n 3, 1), (6, .aload_n 3, 1), (7, .ifnull 10, 3), (10, .iload_n 2, 1), (11, .invokestatic 152, 3), (14, .ifCond .ne 7, 3), (17, .sipush 1000, 3), (20, .ireturn, 1), (21, .aload_n 0, 1), (22, .getfield 19, 3), (25, .aload_n 3, 1), (26, .aload_n 0, 1), (27, .getfield 12, 3), (30, .invokevirtual 40, 3), (33, .iload_n 2, 1), (34, .invokevirtual 155, 3), (37, .ireturn, 1)]
set_option maxRecDepth 20000 in
theorem dk_RF_level : (dl_RF_level.all fun q => decide (decode prog_1_method_9_code q.1 = .ok (q.2.1, q.2.2))) = true := by decide +kernel
theorem k_RF_level_0 : am_Snd gG mt yRF_level 0 (2, 0, 0, 0, 1, []) := sd_aload_n 0 0 0 [] rfl (da dk_RF_level (k := 0) rfl)
theorem k_RF_level_1 : am_Snd gG mt yRF_level 1 (1, 0, 1, 0, 2, []) := sd_iload_n 0 1 0 [] rfl (da dk_RF_level (k := 1) rfl)
theorem k_RF_level_2 : am_Snd gG mt yRF_level 2 (61, 0, 75, 2, 5, [(0, 0)]) := sd_callV 0 75 2 0 mt_75 (da dk_RF_level (k := 2) rfl) gG_ok rfl w_571 (List.forall_mem_cons.2 ⟨w_568, List.forall_mem_cons.2 ⟨w_570, List.forall_mem_cons.2 ⟨w_15, List.forall_mem_cons.2 ⟨w_47, fun _ h => absurd h List.not_mem_nil⟩⟩⟩⟩) hd_75 (by decide) rfl (Nat.le_of_ble_eq_true rfl) (Nat.le_of_ble_eq_true rfl)
theorem k_RF_level_5 : am_Snd gG mt yRF_level 5 (4, 0, 3, 0, 6, []) := sd_astore_n 0 3 0 [] rfl (da dk_RF_level (k := 3) rfl)
theorem k_RF_level_6 : am_Snd gG mt yRF_level 6 (2, 0, 3, 0, 7, []) := sd_aload_n 0 3 0 [] rfl (da dk_RF_level (k := 4) rfl)
theorem k_RF_level_7 : am_Snd gG mt yRF_level 7 (27, 0, 17, 0, 10, []) := sd_ifnull 0 17 0 [] (da dk_RF_level (k := 5) rfl) (by decide)
theorem k_RF_level_10 : am_Snd gG mt yRF_level 10 (1, 0, 2, 0, 11, []) := sd_iload_n 0 2 0 [] rfl (da dk_RF_level (k := 6) rfl)
theorem k_RF_level_11 : am_Snd gG mt yRF_level 11 (60, 0, 8, 1, 14, []) := sd_callS 0 8 1 [] mt_8 (da dk_RF_level (k := 7) rfl) gG_ok w_187 (List.forall_mem_cons.2 ⟨w_592, List.forall_mem_cons.2 ⟨w_186, List.forall_mem_cons.2 ⟨w_54, fun _ h => absurd h List.not_mem_nil⟩⟩⟩) hd_8 rfl (Nat.le_of_ble_eq_true rfl) (Nat.le_of_ble_eq_true rfl)
theorem k_RF_level_14 : am_Snd gG mt yRF_level 14 (30, 0, 21, 1, 17, []) := sd_if_ne 0 21 [] (da dk_RF_level (k := 8) rfl) (by decide)
theorem k_RF_level_17 : am_Snd gG mt yRF_level 17 (0, 1000, 0, 0, 20, []) := sd_sipush 1000 0 0 [] (da dk_RF_level (k := 9) rfl) (by decide)
theorem k_RF_level_20 : am_Snd gG mt yRF_level 20 (71, 0, 0, 0, 21, []) := sd_iret 0 0 0 21 [] (da dk_RF_level (k := 10) rfl) rfl
theorem k_RF_level_21 : am_Snd gG mt yRF_level 21 (2, 0, 0, 0, 22, []) := sd_aload_n 0 0 0 [] rfl (da dk_RF_level (k := 11) rfl)
theorem k_RF_level_22 : am_Snd gG mt yRF_level 22 (40, 0, 0, 1, 25, []) := sd_getf 0 0 1 [] (da dk_RF_level (k := 12) rfl) rfl (by decide) hin_0 w_169
theorem k_RF_level_25 : am_Snd gG mt yRF_level 25 (2, 0, 3, 0, 26, []) := sd_aload_n 0 3 0 [] rfl (da dk_RF_level (k := 13) rfl)
theorem k_RF_level_26 : am_Snd gG mt yRF_level 26 (2, 0, 0, 0, 27, []) := sd_aload_n 0 0 0 [] rfl (da dk_RF_level (k := 14) rfl)
theorem k_RF_level_27 : am_Snd gG mt yRF_level 27 (40, 0, 0, 0, 30, []) := sd_getf 0 0 0 [] (da dk_RF_level (k := 15) rfl) rfl (by decide) hin_0 w_168
theorem k_RF_level_30 : am_Snd gG mt yRF_level 30 (61, 0, 10, 3, 33, [(0, 4)]) := sd_callV 0 10 3 4 mt_10 (da dk_RF_level (k := 16) rfl) gG_ok rfl w_195 (List.forall_mem_cons.2 ⟨w_192, List.forall_mem_cons.2 ⟨w_193, List.forall_mem_cons.2 ⟨w_194, List.forall_mem_cons.2 ⟨w_49, fun _ h => absurd h List.not_mem_nil⟩⟩⟩⟩) hd_10 (by decide) rfl (Nat.le_of_ble_eq_true rfl) (Nat.le_of_ble_eq_true rfl)
theorem k_RF_level_33 : am_Snd gG mt yRF_level 33 (1, 0, 2, 0, 34, []) := sd_iload_n 0 2 0 [] rfl (da dk_RF_level (k := 17) rfl)
theorem k_RF_level_34 : am_Snd gG mt yRF_level 34 (61, 2, 45, 2, 37, [(0, 6)]) := sd_callV 2 45 2 6 mt_45 (da dk_RF_level (k := 18) rfl) gG_ok rfl w_338 (List.forall_mem_cons.2 ⟨w_614, List.forall_mem_cons.2 ⟨w_336, List.forall_mem_cons.2 ⟨w_337, List.forall_mem_cons.2 ⟨w_50, fun _ h => absurd h List.not_mem_nil⟩⟩⟩⟩) hd_45 (by decide) rfl (Nat.le_of_ble_eq_true rfl) (Nat.le_of_ble_eq_true rfl)
theorem k_RF_level_37 : am_Snd gG mt yRF_level 37 (71, 0, 0, 0, 38, []) := sd_iret 0 0 0 38 [] (da dk_RF_level (k := 19) rfl) rfl
set_option maxRecDepth 20000 in
theorem ks_RF_level : ∀ q ∈ tRF_level, am_Snd gG mt yRF_level q.1 q.2 := List.forall_mem_cons.2 ⟨k_RF_level_0, List.forall_mem_cons.2 ⟨k_RF_level_1, List.forall_mem_cons.2 ⟨k_RF_level_2, List.forall_mem_cons.2 ⟨k_RF_level_5, List.forall_mem_cons.2 ⟨k_RF_level_6, List.forall_mem_cons.2 ⟨k_RF_level_7, List.forall_mem_cons.2 ⟨k_RF_level_10, List.forall_mem_cons.2 ⟨k_RF_level_11, List.forall_mem_cons.2 ⟨k_RF_level_14, List.forall_mem_cons.2 ⟨k_RF_level_17, List.forall_mem_cons.2 ⟨k_RF_level_20, List.forall_mem_cons.2 ⟨k_RF_level_21, List.forall_mem_cons.2 ⟨k_RF_level_22, List.forall_mem_cons.2 ⟨k_RF_level_25, List.forall_mem_cons.2 ⟨k_RF_level_26, List.forall_mem_cons.2 ⟨k_RF_level_27, List.forall_mem_cons.2 ⟨k_RF_level_30, List.forall_mem_cons.2 ⟨k_RF_level_33, List.forall_mem_cons.2 ⟨k_RF_level_34, List.forall_mem_cons.2 ⟨k_RF_level_37, fun _ h => absurd h List.not_mem_nil⟩⟩⟩⟩⟩⟩⟩⟩⟩⟩⟩⟩⟩⟩⟩⟩⟩⟩⟩⟩
def dl_RF_knows : List (Nat × Instr × Nat) := [(0, .aload_n 0, 1), (1, .iload_n 1, 1), (2, .invokevirtual 96, 3), (5, .astore_n 3, 1), (6, .aload_n 3, 1), (7, .ifnonnull 5, 3), (10, .iconst (-1), 1), (11, .ireturn, 1), (12, .aload_n 3, 1), (13, .iload_n 2, 1), (14, .invokevirtual 111, 3), (17, .ifCond .eq 5, 3), (20, .iconst 1, 1), (21, .ireturn, 1), (22, .aload_n 3, 1), (23, .iload_n 2, 1), (24, .invokevirtual 159, 3), (27, .ifCond .eq 7, 3), (30, .iconst 2, 1), (31, .goto 4, 3), (34, .iconst 0, 1), (35, .ireturn, 1)]
set_option maxRecDepth 20000 in
theorem dk_RF_knows : (dl_RF_knows.all fun q => decide (decode prog_1_method_10_code q.1 = .ok (q.2.1, q.2.2))) = true := by decide +kernel
theorem k_RF_knows_0 : am_Snd gG mt yRF_knows 0 (2, 0, 0, 0, 1, []) := sd_aload_n 0 0 0 [] rfl (da dk_RF_knows (k := 0) rfl)
theorem k_RF_knows_1 : am_Snd gG mt yRF_knows 1 (1, 0, 1, 0, 2, []) := sd_iload_n 0 1 0 [] rfl (da dk_RF_knows (k := 1) rfl)
theorem k_RF_knows_2 : am_Snd gG mt yRF_knows 2 (61, 0, 75, 2, 5, [(0, 0)]) := sd_callV 0 75 2 0 mt_75 (da dk_RF_knows (k := 2) rfl) gG_ok rfl w_571 (List.forall_mem_cons.2 ⟨w_568, List.forall_mem_cons.2 ⟨w_570, List.forall_mem_cons.2 ⟨w_15, List.forall_mem_cons.2 ⟨w_47, fun _ h => absurd h List.not_mem_nil⟩⟩⟩⟩) hd_75 (by decide) rfl (Nat.le_of_ble_eq_true rfl) (Nat.le_of_ble_eq_true rfl)
theorem k_RF_knows_5 : am_Snd gG mt yRF_knows 5 (4, 0, 3, 0, 6, []) := sd_astore_n 0 3 0 [] rfl (da dk_RF_knows (k := 3) rfl)
theorem k_RF_knows_6 : am_Snd gG mt yRF_knows 6 (2, 0, 3, 0, 7, []) := sd_aload_n 0 3 0 [] rfl (da dk_RF_knows (k := 4) rfl)
theorem k_RF_knows_7 : am_Snd gG mt yRF_knows 7 (28, 0, 12, 0, 10, []) := sd_ifnonnull 0 12 0 [] (da dk_RF_knows (k := 5) rfl) (by decide)
theorem k_RF_knows_10 : am_Snd gG mt yRF_knows 10 (0, (-1), 0, 0, 11, []) := sd_iconst (-1) 0 0 [] (da dk_RF_knows (k := 6) rfl)
theorem k_RF_knows_11 : am_Snd gG mt yRF_knows 11 (71, 0, 0, 0, 12, []) := sd_iret 0 0 0 12 [] (da dk_RF_knows (k := 7) rfl) rfl
theorem k_RF_knows_12 : am_Snd gG mt yRF_knows 12 (2, 0, 3, 0, 13, []) := sd_aload_n 0 3 0 [] rfl (da dk_RF_knows (k := 8) rfl)
theorem k_RF_knows_13 : am_Snd gG mt yRF_knows 13 (1, 0, 2, 0, 14, []) := sd_iload_n 0 2 0 [] rfl (da dk_RF_knows (k := 9) rfl)
theorem k_RF_knows_14 : am_Snd gG mt yRF_knows 14 (61, 0, 78, 2, 17, [(0, 5)]) := sd_callV 0 78 2 5 mt_78 (da dk_RF_knows (k := 10) rfl) gG_ok rfl w_584 (List.forall_mem_cons.2 ⟨w_581, List.forall_mem_cons.2 ⟨w_582, List.forall_mem_cons.2 ⟨w_583, List.forall_mem_cons.2 ⟨w_52, fun _ h => absurd h List.not_mem_nil⟩⟩⟩⟩) hd_78 (by decide) rfl (Nat.le_of_ble_eq_true rfl) (Nat.le_of_ble_eq_true rfl)
theorem k_RF_knows_17 : am_Snd gG mt yRF_knows 17 (30, 0, 22, 0, 20, []) := sd_if_eq 0 22 [] (da dk_RF_knows (k := 11) rfl) (by decide)
theorem k_RF_knows_20 : am_Snd gG mt yRF_knows 20 (0, 1, 0, 0, 21, []) := sd_iconst 1 0 0 [] (da dk_RF_knows (k := 12) rfl)
theorem k_RF_knows_21 : am_Snd gG mt yRF_knows 21 (71, 0, 0, 0, 22, []) := sd_iret 0 0 0 22 [] (da dk_RF_knows (k := 13) rfl) rfl
theorem k_RF_knows_22 : am_Snd gG mt yRF_knows 22 (2, 0, 3, 0, 23, []) := sd_aload_n 0 3 0 [] rfl (da dk_RF_knows (k := 14) rfl)
theorem k_RF_knows_23 : am_Snd gG mt yRF_knows 23 (1, 0, 2, 0, 24, []) := sd_iload_n 0 2 0 [] rfl (da dk_RF_knows (k := 15) rfl)
theorem k_RF_knows_24 : am_Snd gG mt yRF_knows 24 (61, 0, 87, 2, 27, [(0, 5)]) := sd_callV 0 87 2 5 mt_87 (da dk_RF_knows (k := 16) rfl) gG_ok rfl w_622 (List.forall_mem_cons.2 ⟨w_619, List.forall_mem_cons.2 ⟨w_620, List.forall_mem_cons.2 ⟨w_621, List.forall_mem_cons.2 ⟨w_52, fun _ h => absurd h List.not_mem_nil⟩⟩⟩⟩) hd_87 (by decide) rfl (Nat.le_of_ble_eq_true rfl) (Nat.le_of_ble_eq_true rfl)
theorem k_RF_knows_27 : am_Snd gG mt yRF_knows 27 (30, 0, 34, 0, 30, []) := sd_if_eq 0 34 [] (da dk_RF_knows (k := 17) rfl) (by decide)
theorem k_RF_knows_30 : am_Snd gG mt yRF_knows 30 (0, 2, 0, 0, 31, []) := sd_iconst 2 0 0 [] (da dk_RF_knows (k := 18) rfl)
theorem k_RF_knows_31 : am_Snd gG mt yRF_knows 31 (26, 0, 35, 0, 34, []) := sd_goto 0 35 0 34 [] (da dk_RF_knows (k := 19) rfl) (by decide)
theorem k_RF_knows_34 : am_Snd gG mt yRF_knows 34 (0, 0, 0, 0, 35, []) := sd_iconst 0 0 0 [] (da dk_RF_knows (k := 20) rfl)
theorem k_RF_knows_35 : am_Snd gG mt yRF_knows 35 (71, 0, 0, 0, 36, []) := sd_iret 0 0 0 36 [] (da dk_RF_knows (k := 21) rfl) rfl
set_option maxRecDepth 20000 in
theorem ks_RF_knows : ∀ q ∈ tRF_knows, am_Snd gG mt yRF_knows q.1 q.2 := List.forall_mem_cons.2 ⟨k_RF_knows_0, List.forall_mem_cons.2 ⟨k_RF_knows_1, List.forall_mem_cons.2 ⟨k_RF_knows_2, List.forall_mem_cons.2 ⟨k_RF_knows_5, List.forall_mem_cons.2 ⟨k_RF_knows_6, List.forall_mem_cons.2 ⟨k_RF_knows_7, List.forall_mem_cons.2 ⟨k_RF_knows_10, List.forall_mem_cons.2 ⟨k_RF_knows_11, List.forall_mem_cons.2 ⟨k_RF_knows_12, List.forall_mem_cons.2 ⟨k_RF_knows_13, List.forall_mem_cons.2 ⟨k_RF_knows_14, List.forall_mem_cons.2 ⟨k_RF_knows_17, List.forall_mem_cons.2 ⟨k_RF_knows_20, List.forall_mem_cons.2 ⟨k_RF_knows_21, List.forall_mem_cons.2 ⟨k_RF_knows_22, List.forall_mem_cons.2 ⟨k_RF_knows_23, List.forall_mem_cons.2 ⟨k_RF_knows_24, List.forall_mem_cons.2 ⟨k_RF_knows_27, List.forall_mem_cons.2 ⟨k_RF_knows_30, List.forall_mem_cons.2 ⟨k_RF_knows_31, List.forall_mem_cons.2 ⟨k_RF_knows_34, List.forall_mem_cons.2 ⟨k_RF_knows_35, fun _ h => absurd h List.not_mem_nil⟩⟩⟩⟩⟩⟩⟩⟩⟩⟩⟩⟩⟩⟩⟩⟩⟩⟩⟩⟩⟩⟩
def dl_Server_isHolding : List (Nat × Instr × Nat) := [(0, .aload_n 0, 1), (1, .getfield 18, 3), (4, .iload_n 1, 1), (5, .invokevirtual 28, 3), (8, .ireturn, 1)]
set_option maxRecDepth 20000 in
theorem dk_Server_isHolding : (dl_Server_isHolding.all fun q => decide (decode prog_7_method_3_code q.1 = .ok (q.2.1, q.2.2))) = true := by decide +kernel
theorem k_Server_isHolding_0 : am_Snd gG mt yServer_isHolding 0 (2, 0, 0, 0, 1, []) := sd_aload_n 0 0 0 [] rfl (da dk_Server_isHolding (k := 0) rfl)
theorem k_Server_isHolding_1 : am_Snd gG mt yServer_isHolding 1 (40, 0, 5, 1, 4, []) := sd_getf 0 5 1 [] (da dk_Server_isHolding (k := 1) rfl) rfl (by decide) hin_5 w_155
theorem k_Server_isHolding_4 : am_Snd gG mt yServer_isHolding 4 (1, 0, 1, 0, 5, []) := sd_iload_n 0 1 0 [] rfl (da dk_Server_isHolding (k := 2) rfl)
theorem k_Server_isHolding_5 : am_Snd gG mt yServer_isHolding 5 (61, 0, 13, 2, 8, [(0, 2)]) := sd_callV 0 13 2 2 mt_13 (da dk_Server_isHolding (k := 3) rfl) gG_ok rfl w_207 (List.forall_mem_cons.2 ⟨w_204, List.forall_mem_cons.2 ⟨w_205, List.forall_mem_cons.2 ⟨w_206, List.forall_mem_cons.2 ⟨w_51, fun _ h => absurd h List.not_mem_nil⟩⟩⟩⟩) hd_13 (by decide) rfl (Nat.le_of_ble_eq_true rfl) (Nat.le_of_ble_eq_true rfl)
theorem k_Server_isHolding_8 : am_Snd gG mt yServer_isHolding 8 (72, 0, 0, 0, 9, []) := sd_zret 0 0 0 9 [] (da dk_Server_isHolding (k := 4) rfl) rfl
set_option maxRecDepth 20000 in
theorem ks_Server_isHolding : ∀ q ∈ tServer_isHolding, am_Snd gG mt yServer_isHolding q.1 q.2 := List.forall_mem_cons.2 ⟨k_Server_isHolding_0, List.forall_mem_cons.2 ⟨k_Server_isHolding_1, List.forall_mem_cons.2 ⟨k_Server_isHolding_4, List.forall_mem_cons.2 ⟨k_Server_isHolding_5, List.forall_mem_cons.2 ⟨k_Server_isHolding_8, fun _ h => absurd h List.not_mem_nil⟩⟩⟩⟩⟩
def dl_RF_head : List (Nat × Instr × Nat) := [(0, .aload_n 0, 1), (1, .iload_n 1, 1), (2, .invokevirtual 96, 3), (5, .astore_n 3, 1), (6, .aload_n 3, 1), (7, .ifnonnull 7, 3), (10, .iconst (-1), 1), (11, .goto 12, 3), (14, .aload_n 3, 1), (15, .iload_n 2, 1), (16, .aload_n 0, 1), (17, .getfield 12, 3), (20, .invokevirtual 162, 3), (23, .ireturn, 1)]
set_option maxRecDepth 20000 in
theorem dk_RF_head : (dl_RF_head.all fun q => decide (decode prog_1_method_11_code q.1 = .ok (q.2.1, q.2.2))) = true := by decide +kernel
theorem k_RF_head_0 : am_Snd gG mt yRF_head 0 (2, 0, 0, 0, 1, []) := sd_aload_n 0 0 0 [] rfl (da dk_RF_head (k := 0) rfl)
theorem k_RF_head_1 : am_Snd gG mt yRF_head 1 (1, 0, 1, 0, 2, []) := sd_iload_n 0 1 0 [] rfl (da dk_RF_head (k := 1) rfl)
theorem k_RF_head_2 : am_Snd gG mt yRF_head 2 (61, 0, 75, 2, 5, [(0, 0)]) := sd_callV 0 75 2 0 mt_75 (da dk_RF_head (k := 2) rfl) gG_ok rfl w_571 (List.forall_mem_cons.2 ⟨w_568, List.forall_mem_cons.2 ⟨w_570, List.forall_mem_cons.2 ⟨w_15, List.forall_mem_cons.2 ⟨w_47, fun _ h => absurd h List.not_mem_nil⟩⟩⟩⟩) hd_75 (by decide) rfl (Nat.le_of_ble_eq_true rfl) (Nat.le_of_ble_eq_true rfl)
theorem k_RF_head_5 : am_Snd gG mt yRF_head 5 (4, 0, 3, 0, 6, []) := sd_astore_n 0 3 0 [] rfl (da dk_RF_head (k := 3) rfl)
theorem k_RF_head_6 : am_Snd gG mt yRF_head 6 (2, 0, 3, 0, 7, []) := sd_aload_n 0 3 0 [] rfl (da dk_RF_head (k := 4) rfl)
theorem k_RF_head_7 : am_Snd gG mt yRF_head 7 (28, 0, 14, 0, 10, []) := sd_ifnonnull 0 14 0 [] (da dk_RF_head (k := 5) rfl) (by decide)
theorem k_RF_head_10 : am_Snd gG mt yRF_head 10 (0, (-1), 0, 0, 11, []) := sd_iconst (-1) 0 0 [] (da dk_RF_head (k := 6) rfl)
theorem k_RF_head_11 : am_Snd gG mt yRF_head 11 (26, 0, 23, 0, 14, []) := sd_goto 0 23 0 14 [] (da dk_RF_head (k := 7) rfl) (by decide)
theorem k_RF_head_14 : am_Snd gG mt yRF_head 14 (2, 0, 3, 0, 15, []) := sd_aload_n 0 3 0 [] rfl (da dk_RF_head (k := 8) rfl)
theorem k_RF_head_15 : am_Snd gG mt yRF_head 15 (1, 0, 2, 0, 16, []) := sd_iload_n 0 2 0 [] rfl (da dk_RF_head (k := 9) rfl)
theorem k_RF_head_16 : am_Snd gG mt yRF_head 16 (2, 0, 0, 0, 17, []) := sd_aload_n 0 0 0 [] rfl (da dk_RF_head (k := 10) rfl)
theorem k_RF_head_17 : am_Snd gG mt yRF_head 17 (40, 0, 0, 0, 20, []) := sd_getf 0 0 0 [] (da dk_RF_head (k := 11) rfl) rfl (by decide) hin_0 w_168
theorem k_RF_head_20 : am_Snd gG mt yRF_head 20 (61, 2, 89, 3, 23, [(0, 5)]) := sd_callV 2 89 3 5 mt_89 (da dk_RF_head (k := 12) rfl) gG_ok rfl w_630 (List.forall_mem_cons.2 ⟨w_627, List.forall_mem_cons.2 ⟨w_628, List.forall_mem_cons.2 ⟨w_629, List.forall_mem_cons.2 ⟨w_52, fun _ h => absurd h List.not_mem_nil⟩⟩⟩⟩) hd_89 (by decide) rfl (Nat.le_of_ble_eq_true rfl) (Nat.le_of_ble_eq_true rfl)
theorem k_RF_head_23 : am_Snd gG mt yRF_head 23 (71, 0, 0, 0, 24, []) := sd_iret 0 0 0 24 [] (da dk_RF_head (k := 13) rfl) rfl
set_option maxRecDepth 20000 in
theorem ks_RF_head : ∀ q ∈ tRF_head, am_Snd gG mt yRF_head q.1 q.2 := List.forall_mem_cons.2 ⟨k_RF_head_0, List.forall_mem_cons.2 ⟨k_RF_head_1, List.forall_mem_cons.2 ⟨k_RF_head_2, List.forall_mem_cons.2 ⟨k_RF_head_5, List.forall_mem_cons.2 ⟨k_RF_head_6, List.forall_mem_cons.2 ⟨k_RF_head_7, List.forall_mem_cons.2 ⟨k_RF_head_10, List.forall_mem_cons.2 ⟨k_RF_head_11, List.forall_mem_cons.2 ⟨k_RF_head_14, List.forall_mem_cons.2 ⟨k_RF_head_15, List.forall_mem_cons.2 ⟨k_RF_head_16, List.forall_mem_cons.2 ⟨k_RF_head_17, List.forall_mem_cons.2 ⟨k_RF_head_20, List.forall_mem_cons.2 ⟨k_RF_head_23, fun _ h => absurd h List.not_mem_nil⟩⟩⟩⟩⟩⟩⟩⟩⟩⟩⟩⟩⟩⟩
def dl_Server_headNumber : List (Nat × Instr × Nat) := [(0, .iconst 0, 1), (1, .istore_n 3, 1), (2, .iconst 0, 1), (3, .istore 4, 2), (5, .iload 4, 2), (7, .aload_n 2, 1), (8, .invokevirtual 36, 3), (11, .if_icmp .ge 32, 3), (14, .aload_n 0, 1), (15, .getfield 21, 3), (18, .iload 4, 2), (20, .invokevirtual 28, 3), (23, .ifCond .eq 14, 3), (26, .iload_n 3, 1), (27, .iload_n 1, 1), (28, .if_icmp .ne 6, 3), (31, .iload 4, 2), (33, .ireturn, 1), (34, .iinc 3 1, 3), (37, .iinc 4 1, 3), (40, .goto (-35), 3), (43, .bipush (-2), 2), (45, .ireturn, 1)]
set_option maxRecDepth 20000 in
theorem dk_Server_headNumber : (dl_Server_headNumber.all fun q => decide (decode prog_7_method_8_code q.1 = .ok (q.2.1, q.2.2))) = true := by decide +kernel
theorem k_Server_headNumber_0 : am_Snd gG mt yServer_headNumber 0 (0, 0, 0, 0, 1, []) := sd_iconst 0 0 0 [] (da dk_Server_headNumber (k := 0) rfl)
theorem k_Server_headNumber_1 : am_Snd gG mt yServer_headNumber 1 (3, 0, 3, 0, 2, []) := sd_istore_n 0 3 0 [] rfl (da dk_Server_headNumber (k := 1) rfl)
theorem k_Server_headNumber_2 : am_Snd gG mt yServer_headNumber 2 (0, 0, 0, 0, 3, []) := sd_iconst 0 0 0 [] (da dk_Server_headNumber (k := 2) rfl)
theorem k_Server_headNumber_3 : am_Snd gG mt yServer_headNumber 3 (3, 0, 4, 0, 5, []) := sd_istore 0 4 0 [] (da dk_Server_headNumber (k := 3) rfl)
theorem k_Server_headNumber_5 : am_Snd gG mt yServer_headNumber 5 (1, 0, 4, 0, 7, []) := sd_iload 0 4 0 [] (da dk_Server_headNumber (k := 4) rfl)
theorem k_Server_headNumber_7 : am_Snd gG mt yServer_headNumber 7 (2, 0, 2, 0, 8, []) := sd_aload_n 0 2 0 [] rfl (da dk_Server_headNumber (k := 5) rfl)
theorem k_Server_headNumber_8 : am_Snd gG mt yServer_headNumber 8 (61, 0, 12, 1, 11, [(0, 3)]) := sd_callV 0 12 1 3 mt_12 (da dk_Server_headNumber (k := 6) rfl) gG_ok rfl w_203 (List.forall_mem_cons.2 ⟨w_200, List.forall_mem_cons.2 ⟨w_201, List.forall_mem_cons.2 ⟨w_202, List.forall_mem_cons.2 ⟨w_48, fun _ h => absurd h List.not_mem_nil⟩⟩⟩⟩) hd_12 (by decide) rfl (Nat.le_of_ble_eq_true rfl) (Nat.le_of_ble_eq_true rfl)
theorem k_Server_headNumber_11 : am_Snd gG mt yServer_headNumber 11 (31, 0, 43, 3, 14, []) := sd_icmp_ge 0 43 [] (da dk_Server_headNumber (k := 7) rfl) (by decide)
theorem k_Server_headNumber_14 : am_Snd gG mt yServer_headNumber 14 (2, 0, 0, 0, 15, []) := sd_aload_n 0 0 0 [] rfl (da dk_Server_headNumber (k := 8) rfl)
theorem k_Server_headNumber_15 : am_Snd gG mt yServer_headNumber 15 (40, 0, 5, 2, 18, []) := sd_getf 0 5 2 [] (da dk_Server_headNumber (k := 9) rfl) rfl (by decide) hin_5 w_156
theorem k_Server_headNumber_18 : am_Snd gG mt yServer_headNumber 18 (1, 0, 4, 0, 20, []) := sd_iload 0 4 0 [] (da dk_Server_headNumber (k := 10) rfl)
theorem k_Server_headNumber_20 : am_Snd gG mt yServer_headNumber 20 (61, 0, 13, 2, 23, [(0, 2)]) := sd_callV 0 13 2 2 mt_13 (da dk_Server_headNumber (k := 11) rfl) gG_ok rfl w_207 (List.forall_mem_cons.2 ⟨w_204, List.forall_mem_cons.2 ⟨w_205, List.forall_mem_cons.2 ⟨w_206, List.forall_mem_cons.2 ⟨w_51, fun _ h => absurd h List.not_mem_nil⟩⟩⟩⟩) hd_13 (by decide) rfl (Nat.le_of_ble_eq_true rfl) (Nat.le_of_ble_eq_true rfl)
theorem k_Server_headNumber_23 : am_Snd gG mt yServer_headNumber 23 (30, 0, 37, 0, 26, []) := sd_if_eq 0 37 [] (da dk_Server_headNumber (k := 12) rfl) (by decide)
theorem k_Server_headNumber_26 : am_Snd gG mt yServer_headNumber 26 (1, 0, 3, 0, 27, []) := sd_iload_n 0 3 0 [] rfl (da dk_Server_headNumber (k := 13) rfl)
theorem k_Server_headNumber_27 : am_Snd gG mt yServer_headNumber 27 (1, 0, 1, 0, 28, []) := sd_iload_n 0 1 0 [] rfl (da dk_Server_headNumber (k := 14) rfl)
theorem k_Server_headNumber_28 : am_Snd gG mt yServer_headNumber 28 (31, 0, 34, 1, 31, []) := sd_icmp_ne 0 34 [] (da dk_Server_headNumber (k := 15) rfl) (by decide)
theorem k_Server_headNumber_31 : am_Snd gG mt yServer_headNumber 31 (1, 0, 4, 0, 33, []) := sd_iload 0 4 0 [] (da dk_Server_headNumber (k := 16) rfl)
theorem k_Server_headNumber_33 : am_Snd gG mt yServer_headNumber 33 (71, 0, 0, 0, 34, []) := sd_iret 0 0 0 34 [] (da dk_Server_headNumber (k := 17) rfl) rfl
theorem k_Server_headNumber_34 : am_Snd gG mt yServer_headNumber 34 (5, 1, 3, 0, 37, []) := sd_iinc 1 3 0 [] (da dk_Server_headNumber (k := 18) rfl)
theorem k_Server_headNumber_37 : am_Snd gG mt yServer_headNumber 37 (5, 1, 4, 0, 40, []) := sd_iinc 1 4 0 [] (da dk_Server_headNumber (k := 19) rfl)
theorem k_Server_headNumber_40 : am_Snd gG mt yServer_headNumber 40 (26, 0, 5, 0, 43, []) := sd_goto 0 5 0 43 [] (da dk_Server_headNumber (k := 20) rfl) (by decide)
theorem k_Server_headNumber_43 : am_Snd gG mt yServer_headNumber 43 (0, (-2), 0, 0, 45, []) := sd_bipush (-2) 0 0 [] (da dk_Server_headNumber (k := 21) rfl) (by decide)
theorem k_Server_headNumber_45 : am_Snd gG mt yServer_headNumber 45 (71, 0, 0, 0, 46, []) := sd_iret 0 0 0 46 [] (da dk_Server_headNumber (k := 22) rfl) rfl
set_option maxRecDepth 20000 in
theorem ks_Server_headNumber : ∀ q ∈ tServer_headNumber, am_Snd gG mt yServer_headNumber q.1 q.2 := List.forall_mem_cons.2 ⟨k_Server_headNumber_0, List.forall_mem_cons.2 ⟨k_Server_headNumber_1, List.forall_mem_cons.2 ⟨k_Server_headNumber_2, List.forall_mem_cons.2 ⟨k_Server_headNumber_3, List.forall_mem_cons.2 ⟨k_Server_headNumber_5, List.forall_mem_cons.2 ⟨k_Server_headNumber_7, List.forall_mem_cons.2 ⟨k_Server_headNumber_8, List.forall_mem_cons.2 ⟨k_Server_headNumber_11, List.forall_mem_cons.2 ⟨k_Server_headNumber_14, List.forall_mem_cons.2 ⟨k_Server_headNumber_15, List.forall_mem_cons.2 ⟨k_Server_headNumber_18, List.forall_mem_cons.2 ⟨k_Server_headNumber_20, List.forall_mem_cons.2 ⟨k_Server_headNumber_23, List.forall_mem_cons.2 ⟨k_Server_headNumber_26, List.forall_mem_cons.2 ⟨k_Server_headNumber_27, List.forall_mem_cons.2 ⟨k_Server_headNumber_28, List.forall_mem_cons.2 ⟨k_Server_headNumber_31, List.forall_mem_cons.2 ⟨k_Server_headNumber_33, List.forall_mem_cons.2 ⟨k_Server_headNumber_34, List.forall_mem_cons.2 ⟨k_Server_headNumber_37, List.forall_mem_cons.2 ⟨k_Server_headNumber_40, List.forall_mem_cons.2 ⟨k_Server_headNumber_43, List.forall_mem_cons.2 ⟨k_Server_headNumber_45, fun _ h => absurd h List.not_mem_nil⟩⟩⟩⟩⟩⟩⟩⟩⟩⟩⟩⟩⟩⟩⟩⟩⟩⟩⟩⟩⟩⟩⟩
def dl_RF_count : List (Nat × Instr × Nat) := [(0, .aload_n 0, 1), (1, .iload_n 1, 1), (2, .invokevirtual 96, 3), (5, .astore_n 3, 1), (6, .aload_n 3, 1), (7, .ifnonnull 5, 3), (10, .iconst (-1), 1), (11, .ireturn, 1), (12, .iload_n 2, 1), (13, .tableswitch 62 0 3 #[31, 36, 41, 46], 31), (44, .aload_n 3, 1), (45, .invokevirtual 108, 3), (48, .ireturn, 1), (49, .aload_n 3, 1), (50, .invokevirtual 166, 3), (53, .ireturn, 1), (54, .aload_n 3, 1), (55, .invokevirtual 73, 3), (58, .ireturn, 1), (59, .aload_n 0, 1), (60, .getfield 19, 3), (63, .aload_n 3, 1), (64, .aload_n 0, 1), (65, .getfield 12, 3), (68, .invokevirtual 40, 3), (71, .invokevirtual 142, 3), (74, .ireturn, 1), (75, .iconst (-1), 1), (76, .ireturn, 1)]
set_option maxRecDepth 20000 in
theorem dk_RF_count : (dl_RF_count.all fun q => decide (decode prog_1_method_12_code q.1 = .ok (q.2.1, q.2.2))) = true := by decide +kernel
theorem k_RF_count_0 : am_Snd gG mt yRF_count 0 (2, 0, 0, 0, 1, []) := sd_aload_n 0 0 0 [] rfl (da dk_RF_count (k := 0) rfl)
theorem k_RF_count_1 : am_Snd gG mt yRF_count 1 (1, 0, 1, 0, 2, []) := sd_iload_n 0 1 0 [] rfl (da dk_RF_count (k := 1) rfl)
theorem k_RF_count_2 : am_Snd gG mt yRF_count 2 (61, 0, 75, 2, 5, [(0, 0)]) := sd_callV 0 75 2 0 mt_75 (da dk_RF_count (k := 2) rfl) gG_ok rfl w_571 (List.forall_mem_cons.2 ⟨w_568, List.forall_mem_cons.2 ⟨w_570, List.forall_mem_cons.2 ⟨w_15, List.forall_mem_cons.2 ⟨w_47, fun _ h => absurd h List.not_mem_nil⟩⟩⟩⟩) hd_75 (by decide) rfl (Nat.le_of_ble_eq_true rfl) (Nat.le_of_ble_eq_true rfl)
theorem k_RF_count_5 : am_Snd gG mt yRF_count 5 (4, 0, 3, 0, 6, []) := sd_astore_n 0 3 0 [] rfl (da dk_RF_count (k := 3) rfl)
theorem k_RF_count_6 : am_Snd gG mt yRF_count 6 (2, 0, 3, 0, 7, []) := sd_aload_n 0 3 0 [] rfl (da dk_RF_count (k := 4) rfl)
theorem k_RF_count_7 : am_Snd gG mt yRF_count 7 (28, 0, 12, 0, 10, []) := sd_ifnonnull 0 12 0 [] (da dk_RF_count (k := 5) rfl) (by decide)
theorem k_RF_count_10 : am_Snd gG mt yRF_count 10 (0, (-1), 0, 0, 11, []) := sd_iconst (-1) 0 0 [] (da dk_RF_count (k := 6) rfl)
theorem k_RF_count_11 : am_Snd gG mt yRF_count 11 (71, 0, 0, 0, 12, []) := sd_iret 0 0 0 12 [] (da dk_RF_count (k := 7) rfl) rfl
theorem k_RF_count_12 : am_Snd gG mt yRF_count 12 (1, 0, 2, 0, 13, []) := sd_iload_n 0 2 0 [] rfl (da dk_RF_count (k := 8) rfl)
theorem k_RF_count_13 : am_Snd gG mt yRF_count 13 (34, 0, 75, 0, 44, [(0, 44), (1, 49), (2, 54), (3, 59)]) := sd_table 0 75 0 44 [(0, 44), (1, 49), (2, 54), (3, 59)] (da dk_RF_count (k := 9) rfl) (by decide) (by decide) (by decide)
theorem k_RF_count_44 : am_Snd gG mt yRF_count 44 (2, 0, 3, 0, 45, []) := sd_aload_n 0 3 0 [] rfl (da dk_RF_count (k := 10) rfl)
theorem k_RF_count_45 : am_Snd gG mt yRF_count 45 (61, 0, 77, 1, 48, [(0, 5)]) := sd_callV 0 77 1 5 mt_77 (da dk_RF_count (k := 11) rfl) gG_ok rfl w_580 (List.forall_mem_cons.2 ⟨w_577, List.forall_mem_cons.2 ⟨w_578, List.forall_mem_cons.2 ⟨w_579, List.forall_mem_cons.2 ⟨w_52, fun _ h => absurd h List.not_mem_nil⟩⟩⟩⟩) hd_77 (by decide) rfl (Nat.le_of_ble_eq_true rfl) (Nat.le_of_ble_eq_true rfl)
theorem k_RF_count_48 : am_Snd gG mt yRF_count 48 (71, 0, 0, 0, 49, []) := sd_iret 0 0 0 49 [] (da dk_RF_count (k := 12) rfl) rfl
theorem k_RF_count_49 : am_Snd gG mt yRF_count 49 (2, 0, 3, 0, 50, []) := sd_aload_n 0 3 0 [] rfl (da dk_RF_count (k := 13) rfl)
theorem k_RF_count_50 : am_Snd gG mt yRF_count 50 (61, 0, 91, 1, 53, [(0, 5)]) := sd_callV 0 91 1 5 mt_91 (da dk_RF_count (k := 14) rfl) gG_ok rfl w_638 (List.forall_mem_cons.2 ⟨w_635, List.forall_mem_cons.2 ⟨w_636, List.forall_mem_cons.2 ⟨w_637, List.forall_mem_cons.2 ⟨w_52, fun _ h => absurd h List.not_mem_nil⟩⟩⟩⟩) hd_91 (by decide) rfl (Nat.le_of_ble_eq_true rfl) (Nat.le_of_ble_eq_true rfl)
theorem k_RF_count_53 : am_Snd gG mt yRF_count 53 (71, 0, 0, 0, 54, []) := sd_iret 0 0 0 54 [] (da dk_RF_count (k := 15) rfl) rfl
theorem k_RF_count_54 : am_Snd gG mt yRF_count 54 (2, 0, 3, 0, 55, []) := sd_aload_n 0 3 0 [] rfl (da dk_RF_count (k := 16) rfl)
theorem k_RF_count_55 : am_Snd gG mt yRF_count 55 (61, 0, 57, 1, 58, [(0, 5)]) := sd_callV 0 57 1 5 mt_57 (da dk_RF_count (k := 17) rfl) gG_ok rfl w_473 (List.forall_mem_cons.2 ⟨w_506, List.forall_mem_cons.2 ⟨w_471, List.forall_mem_cons.2 ⟨w_472, List.forall_mem_cons.2 ⟨w_52, fun _ h => absurd h List.not_mem_nil⟩⟩⟩⟩) hd_57 (by decide) rfl (Nat.le_of_ble_eq_true rfl) (Nat.le_of_ble_eq_true rfl)
theorem k_RF_count_58 : am_Snd gG mt yRF_count 58 (71, 0, 0, 0, 59, []) := sd_iret 0 0 0 59 [] (da dk_RF_count (k := 18) rfl) rfl
theorem k_RF_count_59 : am_Snd gG mt yRF_count 59 (2, 0, 0, 0, 60, []) := sd_aload_n 0 0 0 [] rfl (da dk_RF_count (k := 19) rfl)
theorem k_RF_count_60 : am_Snd gG mt yRF_count 60 (40, 0, 0, 1, 63, []) := sd_getf 0 0 1 [] (da dk_RF_count (k := 20) rfl) rfl (by decide) hin_0 w_169
theorem k_RF_count_63 : am_Snd gG mt yRF_count 63 (2, 0, 3, 0, 64, []) := sd_aload_n 0 3 0 [] rfl (da dk_RF_count (k := 21) rfl)
theorem k_RF_count_64 : am_Snd gG mt yRF_count 64 (2, 0, 0, 0, 65, []) := sd_aload_n 0 0 0 [] rfl (da dk_RF_count (k := 22) rfl)
theorem k_RF_count_65 : am_Snd gG mt yRF_count 65 (40, 0, 0, 0, 68, []) := sd_getf 0 0 0 [] (da dk_RF_count (k := 23) rfl) rfl (by decide) hin_0 w_168
theorem k_RF_count_68 : am_Snd gG mt yRF_count 68 (61, 0, 10, 3, 71, [(0, 4)]) := sd_callV 0 10 3 4 mt_10 (da dk_RF_count (k := 24) rfl) gG_ok rfl w_195 (List.forall_mem_cons.2 ⟨w_192, List.forall_mem_cons.2 ⟨w_193, List.forall_mem_cons.2 ⟨w_194, List.forall_mem_cons.2 ⟨w_49, fun _ h => absurd h List.not_mem_nil⟩⟩⟩⟩) hd_10 (by decide) rfl (Nat.le_of_ble_eq_true rfl) (Nat.le_of_ble_eq_true rfl)
theorem k_RF_count_71 : am_Snd gG mt yRF_count 71 (61, 2, 84, 1, 74, [(0, 6)]) := sd_callV 2 84 1 6 mt_84 (da dk_RF_count (k := 25) rfl) gG_ok rfl w_609 (List.forall_mem_cons.2 ⟨w_606, List.forall_mem_cons.2 ⟨w_607, List.forall_mem_cons.2 ⟨w_608, List.forall_mem_cons.2 ⟨w_50, fun _ h => absurd h List.not_mem_nil⟩⟩⟩⟩) hd_84 (by decide) rfl (Nat.le_of_ble_eq_true rfl) (Nat.le_of_ble_eq_true rfl)
theorem k_RF_count_74 : am_Snd gG mt yRF_count 74 (71, 0, 0, 0, 75, []) := sd_iret 0 0 0 75 [] (da dk_RF_count (k := 26) rfl) rfl
theorem k_RF_count_75 : am_Snd gG mt yRF_count 75 (0, (-1), 0, 0, 76, []) := sd_iconst (-1) 0 0 [] (da dk_RF_count (k := 27) rfl)
theorem k_RF_count_76 : am_Snd gG mt yRF_count 76 (71, 0, 0, 0, 77, []) := sd_iret 0 0 0 77 [] (da dk_RF_count (k := 28) rfl) rfl
set_option maxRecDepth 20000 in
theorem ks_RF_count : ∀ q ∈ tRF_count, am_Snd gG mt yRF_count q.1 q.2 := List.forall_mem_cons.2 ⟨k_RF_count_0, List.forall_mem_cons.2 ⟨k_RF_count_1, List.forall_mem_cons.2 ⟨k_RF_count_2, List.forall_mem_cons.2 ⟨k_RF_count_5, List.forall_mem_cons.2 ⟨k_RF_count_6, List.forall_mem_cons.2 ⟨k_RF_count_7, List.forall_mem_cons.2 ⟨k_RF_count_10, List.forall_mem_cons.2 ⟨k_RF_count_11, List.forall_mem_cons.2 ⟨k_RF_count_12, List.forall_mem_cons.2 ⟨k_RF_count_13, List.forall_mem_cons.2 ⟨k_RF_count_44, List.forall_mem_cons.2 ⟨k_RF_count_45, List.forall_mem_cons.2 ⟨k_RF_count_48, List.forall_mem_cons.2 ⟨k_RF_count_49, List.forall_mem_cons.2 ⟨k_RF_count_50, List.forall_mem_cons.2 ⟨k_RF_count_53, List.forall_mem_cons.2 ⟨k_RF_count_54, List.forall_mem_cons.2 ⟨k_RF_count_55, List.forall_mem_cons.2 ⟨k_RF_count_58, List.forall_mem_cons.2 ⟨k_RF_count_59, List.forall_mem_cons.2 ⟨k_RF_count_60, List.forall_mem_cons.2 ⟨k_RF_count_63, List.forall_mem_cons.2 ⟨k_RF_count_64, List.forall_mem_cons.2 ⟨k_RF_count_65, List.forall_mem_cons.2 ⟨k_RF_count_68, List.forall_mem_cons.2 ⟨k_RF_count_71, List.forall_mem_cons.2 ⟨k_RF_count_74, List.forall_mem_cons.2 ⟨k_RF_count_75, List.forall_mem_cons.2 ⟨k_RF_count_76, fun _ h => absurd h List.not_mem_nil⟩⟩⟩⟩⟩⟩⟩⟩⟩⟩⟩⟩⟩⟩⟩⟩⟩⟩⟩⟩⟩⟩⟩⟩⟩⟩⟩⟩⟩
def dl_Server_heldCount : List (Nat × Instr × Nat) := [(0, .aload_n 0, 1), (1, .getfield 18, 3), (4, .invokevirtual 32, 3), (7, .ireturn, 1)]
set_option maxRecDepth 20000 in
theorem dk_Server_heldCount : (dl_Server_heldCount.all fun q => decide (decode prog_7_method_5_code q.1 = .ok (q.2.1, q.2.2))) = true := by decide +kernel
theorem k_Server_heldCount_0 : am_Snd gG mt yServer_heldCount 0 (2, 0, 0, 0, 1, []) := sd_aload_n 0 0 0 [] rfl (da dk_Server_heldCount (k := 0) rfl)
theorem k_Server_heldCount_1 : am_Snd gG mt yServer_heldCount 1 (40, 0, 5, 1, 4, []) := sd_getf 0 5 1 [] (da dk_Server_heldCount (k := 1) rfl) rfl (by decide) hin_5 w_155
theorem k_Server_heldCount_4 : am_Snd gG mt yServer_heldCount 4 (61, 2, 58, 1, 7, [(0, 2)]) := sd_callV 2 58 1 2 mt_58 (da dk_Server_heldCount (k := 2) rfl) gG_ok rfl w_477 (List.forall_mem_cons.2 ⟨w_474, List.forall_mem_cons.2 ⟨w_475, List.forall_mem_cons.2 ⟨w_476, List.forall_mem_cons.2 ⟨w_51, fun _ h => absurd h List.not_mem_nil⟩⟩⟩⟩) hd_58 (by decide) rfl (Nat.le_of_ble_eq_true rfl) (Nat.le_of_ble_eq_true rfl)
theorem k_Server_heldCount_7 : am_Snd gG mt yServer_heldCount 7 (71, 0, 0, 0, 8, []) := sd_iret 0 0 0 8 [] (da dk_Server_heldCount (k := 3) rfl) rfl
set_option maxRecDepth 20000 in
theorem ks_Server_heldCount : ∀ q ∈ tServer_heldCount, am_Snd gG mt yServer_heldCount q.1 q.2 := List.forall_mem_cons.2 ⟨k_Server_heldCount_0, List.forall_mem_cons.2 ⟨k_Server_heldCount_1, List.forall_mem_cons.2 ⟨k_Server_heldCount_4, List.forall_mem_cons.2 ⟨k_Server_heldCount_7, fun _ h => absurd h List.not_mem_nil⟩⟩⟩⟩
def dl_RF_events : List (Nat × Instr × Nat) := [(0, .aload_n 0, 1), (1, .getfield 12, 3), (4, .invokevirtual 46, 3), (7, .ireturn, 1)]
set_option maxRecDepth 20000 in
theorem dk_RF_events : (dl_RF_events.all fun q => decide (decode prog_1_method_13_code q.1 = .ok (q.2.1, q.2.2))) = true := by decide +kernel
theorem k_RF_events_0 : am_Snd gG mt yRF_events 0 (2, 0, 0, 0, 1, []) := sd_aload_n 0 0 0 [] rfl (da dk_RF_events (k := 0) rfl)
theorem k_RF_events_1 : am_Snd gG mt yRF_events 1 (40, 0, 0, 0, 4, []) := sd_getf 0 0 0 [] (da dk_RF_events (k := 1) rfl) rfl (by decide) hin_0 w_168
theorem k_RF_events_4 : am_Snd gG mt yRF_events 4 (61, 0, 12, 1, 7, [(0, 3)]) := sd_callV 0 12 1 3 mt_12 (da dk_RF_events (k := 2) rfl) gG_ok rfl w_203 (List.forall_mem_cons.2 ⟨w_374, List.forall_mem_cons.2 ⟨w_201, List.forall_mem_cons.2 ⟨w_202, List.forall_mem_cons.2 ⟨w_48, fun _ h => absurd h List.not_mem_nil⟩⟩⟩⟩) hd_12 (by decide) rfl (Nat.le_of_ble_eq_true rfl) (Nat.le_of_ble_eq_true rfl)
theorem k_RF_events_7 : am_Snd gG mt yRF_events 7 (71, 0, 0, 0, 8, []) := sd_iret 0 0 0 8 [] (da dk_RF_events (k := 3) rfl) rfl
set_option maxRecDepth 20000 in
theorem ks_RF_events : ∀ q ∈ tRF_events, am_Snd gG mt yRF_events q.1 q.2 := List.forall_mem_cons.2 ⟨k_RF_events_0, List.forall_mem_cons.2 ⟨k_RF_events_1, List.forall_mem_cons.2 ⟨k_RF_events_4, List.forall_mem_cons.2 ⟨k_RF_events_7, fun _ h => absurd h List.not_mem_nil⟩⟩⟩⟩
def dl_Md_init : List (Nat × Instr × Nat) := [(0, .aload_n 0, 1), (1, .invokespecial 1, 3), (4, .aload_n 0, 1), (5, .sipush 400, 3), (8, .newarray .int, 2), (10, .putfield 9, 3), (13, .aload_n 0, 1), (14, .sipush 400, 3), (17, .newarray .int, 2), (19, .putfield 13, 3), (22, .aload_n 0, 1), (23, .sipush 400, 3), (26, .newarray .int, 2), (28, .putfield 16, 3), (31, .aload_n 0, 1), (32, .sipush 400, 3), (35, .newarray .int, 2), (37, .putfield 19, 3), (40, .aload_n 0, 1), (41, .sipush 400, 3), (44, .newarray .int, 2), (46, .putfield 22, 3), (49, .aload_n 0, 1), (50, .sipush 1600, 3), (53, .newarray .int, 2), (55, .putfield 25, 3), (58, .aload_n 0, 1), (59, .sipush 400, 3), (62, .newarray .int, 2), (64, .putfield 28, 3), (67, .aload_n 0, 1), (68, .sipush 2400, 3), (71, .newarray .int, 2), (73, .putfield 31, 3), (76, .aload_n 0, 1), (77, .sipush 400, 3), (80, .newarray .int, 2), (82, .putfield 34, 3), (85, .aload_n 0, 1), (86, .sipush 4800, 3), (89, .newarray .int, 2), (91, .putfield 37, 3), (94, .aload_n 0, 1), (95, .ldc 40, 2), (97, .newarray .boolean, 2), (99, .putfield 41, 3), (102, .aload_n 0, 1), (103, .sipush 400, 3), (106, .newarray .boolean, 2), (108, .putfield 45, 3), (111, .aload_n 0, 1), (112, .sipush 9200, 3), (115, .newarray .int, 2), (117, .putfield 48, 3), (120, .aload_n 0, 1), (121, .sipush 9200, 3), (124, .newarray .int, 2), (126, .putfield 51, 3), (129, .aload_n 0, 1), (130, .sipush 1600, 3), (133, .newarray .boolean, 2), (135, .putfield 54, 3), (138, .aload_n 0, 1), (139, .sipush 1600, 3), (142, .newarray .boolean, 2), (144, .putfield 57, 3), (147, .aload_n 0, 1), (148, .iconst 4, 1), (149, .newarray .int, 2), (151, .putfield 60, 3), (154, .aload_n 0, 1), (155, .bipush 92, 2), (157, .newarray .int, 2), (159, .putfield 63, 3), (162, .aload_n 0, 1), (163, .sipush 400, 3), (166, .newarray .int, 2), (168, .putfield 66, 3), (171, .aload_n 0, 1), (172, .bipush 23, 2), (174, .newarray .int, 2), (176, .putfield 69, 3), (179, .aload_n 0, 1), (180, .bipush 23, 2), (182, .newarray .int, 2), (184, .putfield 72, 3), (187, .aload_n 0, 1), (188, .sipush 400, 3), (191, .newarray .int, 2), (193, .putfield 75, 3), (196, .aload_n 0, 1), (197, .sipush 400, 3), (200, .newarray .boolean, 2), (202, .putfield 78, 3), (205, .aload_n 0, 1), (206, .sipush 400, 3), (209, .newarray .boolean, 2), (211, .putfield 81, 3), (214, .aload_n 0, 1), (215, .sipush 400, 3), (218, .newarray .boolean, 2), (220, .putfield 84, 3), (223, .aload_n 0, 1), (224, .sipush 400, 3), (227, .newarray .int, 2), (229, .putfield 87, 3), (232, .aload_n 0, 1), (233, .bipush 23, 2), (235, .newarray .int, 2), (237, .putfield 90, 3), (240, .aload_n 0, 1), (241, .bipush 23, 2), (243, .newarray .int, 2), (245, .putfield 93, 3), (248, .aload_n 0, 1), (249, .bipush 6, 2), (251, .newarray .int, 2), (253, .putfield 96, 3), (256, .iconst 0, 1), (257, .istore_n 1, 1), (258, .iload_n 1, 1), (259, .aload_n 0, 1), (260, .getfield 63, 3), (263, .arraylength, 1), (264, .if_icmp .ge 16, 3), (267, .aload_n 0, 1), (268, .getfield 63, 3), (271, .iload_n 1, 1), (272, .iconst (-1), 1), (273, .iastore, 1), (274, .iinc 1 1, 3), (277, .goto (-19), 3), (280, .return_, 1)]
set_option maxRecDepth 20000 in
theorem dk_Md_init : (dl_Md_init.all fun q => decide (decode prog_10_method_1_code q.1 = .ok (q.2.1, q.2.2))) = true := by decide +kernel
theorem k_Md_init_0 : am_Snd gG mt yMd_init 0 (2, 0, 0, 0, 1, []) := sd_aload_n 0 0 0 [] rfl (da dk_Md_init (k := 0) rfl)
theorem k_Md_init_1 : am_Snd gG mt yMd_init 1 (62, 0, 0, 0, 4, []) := sd_oinit 0 0 0 [] (da dk_Md_init (k := 1) rfl) w_648 w_64 w_65 (by decide) (by decide)
theorem k_Md_init_4 : am_Snd gG mt yMd_init 4 (2, 0, 0, 0, 5, []) := sd_aload_n 0 0 0 [] rfl (da dk_Md_init (k := 2) rfl)
theorem k_Md_init_5 : am_Snd gG mt yMd_init 5 (0, 400, 0, 0, 8, []) := sd_sipush 400 0 0 [] (da dk_Md_init (k := 3) rfl) (by decide)
theorem k_Md_init_8 : am_Snd gG mt yMd_init 8 (52, 0, 0, 0, 10, []) := sd_newa 0 0 0 [] (da dk_Md_init (k := 4) rfl) rfl rfl rfl w_144 (Or.inl rfl) (by decide)
theorem k_Md_init_10 : am_Snd gG mt yMd_init 10 (41, 2, 7, 0, 13, []) := sd_putf 2 7 0 [] cTy_7 (da dk_Md_init (k := 5) rfl) rfl (by decide) hin_7 cTyok_7 cNm_7 w_650 (Or.inr ⟨rfl, rfl, rfl⟩) rfl
theorem k_Md_init_13 : am_Snd gG mt yMd_init 13 (2, 0, 0, 0, 14, []) := sd_aload_n 0 0 0 [] rfl (da dk_Md_init (k := 6) rfl)
theorem k_Md_init_14 : am_Snd gG mt yMd_init 14 (0, 400, 0, 0, 17, []) := sd_sipush 400 0 0 [] (da dk_Md_init (k := 7) rfl) (by decide)
theorem k_Md_init_17 : am_Snd gG mt yMd_init 17 (52, 0, 0, 0, 19, []) := sd_newa 0 0 0 [] (da dk_Md_init (k := 8) rfl) rfl rfl rfl w_144 (Or.inl rfl) (by decide)
theorem k_Md_init_19 : am_Snd gG mt yMd_init 19 (41, 2, 7, 1, 22, []) := sd_putf 2 7 1 [] cTy_7 (da dk_Md_init (k := 9) rfl) rfl (by decide) hin_7 cTyok_7 cNm_7 w_651 (Or.inr ⟨rfl, rfl, rfl⟩) rfl
theorem k_Md_init_22 : am_Snd gG mt yMd_init 22 (2, 0, 0, 0, 23, []) := sd_aload_n 0 0 0 [] rfl (da dk_Md_init (k := 10) rfl)
theorem k_Md_init_23 : am_Snd gG mt yMd_init 23 (0, 400, 0, 0, 26, []) := sd_sipush 400 0 0 [] (da dk_Md_init (k := 11) rfl) (by decide)
theorem k_Md_init_26 : am_Snd gG mt yMd_init 26 (52, 0, 0, 0, 28, []) := sd_newa 0 0 0 [] (da dk_Md_init (k := 12) rfl) rfl rfl rfl w_144 (Or.inl rfl) (by decide)
theorem k_Md_init_28 : am_Snd gG mt yMd_init 28 (41, 2, 7, 2, 31, []) := sd_putf 2 7 2 [] cTy_7 (da dk_Md_init (k := 13) rfl) rfl (by decide) hin_7 cTyok_7 cNm_7 w_652 (Or.inr ⟨rfl, rfl, rfl⟩) rfl
theorem k_Md_init_31 : am_Snd gG mt yMd_init 31 (2, 0, 0, 0, 32, []) := sd_aload_n 0 0 0 [] rfl (da dk_Md_init (k := 14) rfl)
theorem k_Md_init_32 : am_Snd gG mt yMd_init 32 (0, 400, 0, 0, 35, []) := sd_sipush 400 0 0 [] (da dk_Md_init (k := 15) rfl) (by decide)
theorem k_Md_init_35 : am_Snd gG mt yMd_init 35 (52, 0, 0, 0, 37, []) := sd_newa 0 0 0 [] (da dk_Md_init (k := 16) rfl) rfl rfl rfl w_144 (Or.inl rfl) (by decide)
theorem k_Md_init_37 : am_Snd gG mt yMd_init 37 (41, 2, 7, 3, 40, []) := sd_putf 2 7 3 [] cTy_7 (da dk_Md_init (k := 17) rfl) rfl (by decide) hin_7 cTyok_7 cNm_7 w_653 (Or.inr ⟨rfl, rfl, rfl⟩) rfl
theorem k_Md_init_40 : am_Snd gG mt yMd_init 40 (2, 0, 0, 0, 41, []) := sd_aload_n 0 0 0 [] rfl (da dk_Md_init (k := 18) rfl)
theorem k_Md_init_41 : am_Snd gG mt yMd_init 41 (0, 400, 0, 0, 44, []) := sd_sipush 400 0 0 [] (da dk_Md_init (k := 19) rfl) (by decide)
theorem k_Md_init_44 : am_Snd gG mt yMd_init 44 (52, 0, 0, 0, 46, []) := sd_newa 0 0 0 [] (da dk_Md_init (k := 20) rfl) rfl rfl rfl w_144 (Or.inl rfl) (by decide)
theorem k_Md_init_46 : am_Snd gG mt yMd_init 46 (41, 2, 7, 4, 49, []) := sd_putf 2 7 4 [] cTy_7 (da dk_Md_init (k := 21) rfl) rfl (by decide) hin_7 cTyok_7 cNm_7 w_654 (Or.inr ⟨rfl, rfl, rfl⟩) rfl
theorem k_Md_init_49 : am_Snd gG mt yMd_init 49 (2, 0, 0, 0, 50, []) := sd_aload_n 0 0 0 [] rfl (da dk_Md_init (k := 22) rfl)
theorem k_Md_init_50 : am_Snd gG mt yMd_init 50 (0, 1600, 0, 0, 53, []) := sd_sipush 1600 0 0 [] (da dk_Md_init (k := 23) rfl) (by decide)
theorem k_Md_init_53 : am_Snd gG mt yMd_init 53 (52, 0, 0, 0, 55, []) := sd_newa 0 0 0 [] (da dk_Md_init (k := 24) rfl) rfl rfl rfl w_144 (Or.inl rfl) (by decide)
theorem k_Md_init_55 : am_Snd gG mt yMd_init 55 (41, 2, 7, 5, 58, []) := sd_putf 2 7 5 [] cTy_7 (da dk_Md_init (k := 25) rfl) rfl (by decide) hin_7 cTyok_7 cNm_7 w_655 (Or.inr ⟨rfl, rfl, rfl⟩) rfl
theorem k_Md_init_58 : am_Snd gG mt yMd_init 58 (2, 0, 0, 0, 59, []) := sd_aload_n 0 0 0 [] rfl (da dk_Md_init (k := 26) rfl)
theorem k_Md_init_59 : am_Snd gG mt yMd_init 59 (0, 400, 0, 0, 62, []) := sd_sipush 400 0 0 [] (da dk_Md_init (k := 27) rfl) (by decide)
theorem k_Md_init_62 : am_Snd gG mt yMd_init 62 (52, 0, 0, 0, 64, []) := sd_newa 0 0 0 [] (da dk_Md_init (k := 28) rfl) rfl rfl rfl w_144 (Or.inl rfl) (by decide)
theorem k_Md_init_64 : am_Snd gG mt yMd_init 64 (41, 2, 7, 6, 67, []) := sd_putf 2 7 6 [] cTy_7 (da dk_Md_init (k := 29) rfl) rfl (by decide) hin_7 cTyok_7 cNm_7 w_656 (Or.inr ⟨rfl, rfl, rfl⟩) rfl
theorem k_Md_init_67 : am_Snd gG mt yMd_init 67 (2, 0, 0, 0, 68, []) := sd_aload_n 0 0 0 [] rfl (da dk_Md_init (k := 30) rfl)
theorem k_Md_init_68 : am_Snd gG mt yMd_init 68 (0, 2400, 0, 0, 71, []) := sd_sipush 2400 0 0 [] (da dk_Md_init (k := 31) rfl) (by decide)
theorem k_Md_init_71 : am_Snd gG mt yMd_init 71 (52, 0, 0, 0, 73, []) := sd_newa 0 0 0 [] (da dk_Md_init (k := 32) rfl) rfl rfl rfl w_144 (Or.inl rfl) (by decide)
theorem k_Md_init_73 : am_Snd gG mt yMd_init 73 (41, 2, 7, 7, 76, []) := sd_putf 2 7 7 [] cTy_7 (da dk_Md_init (k := 33) rfl) rfl (by decide) hin_7 cTyok_7 cNm_7 w_657 (Or.inr ⟨rfl, rfl, rfl⟩) rfl
theorem k_Md_init_76 : am_Snd gG mt yMd_init 76 (2, 0, 0, 0, 77, []) := sd_aload_n 0 0 0 [] rfl (da dk_Md_init (k := 34) rfl)
theorem k_Md_init_77 : am_Snd gG mt yMd_init 77 (0, 400, 0, 0, 80, []) := sd_sipush 400 0 0 [] (da dk_Md_init (k := 35) rfl) (by decide)
theorem k_Md_init_80 : am_Snd gG mt yMd_init 80 (52, 0, 0, 0, 82, []) := sd_newa 0 0 0 [] (da dk_Md_init (k := 36) rfl) rfl rfl rfl w_144 (Or.inl rfl) (by decide)
theorem k_Md_init_82 : am_Snd gG mt yMd_init 82 (41, 2, 7, 8, 85, []) := sd_putf 2 7 8 [] cTy_7 (da dk_Md_init (k := 37) rfl) rfl (by decide) hin_7 cTyok_7 cNm_7 w_658 (Or.inr ⟨rfl, rfl, rfl⟩) rfl
theorem k_Md_init_85 : am_Snd gG mt yMd_init 85 (2, 0, 0, 0, 86, []) := sd_aload_n 0 0 0 [] rfl (da dk_Md_init (k := 38) rfl)
theorem k_Md_init_86 : am_Snd gG mt yMd_init 86 (0, 4800, 0, 0, 89, []) := sd_sipush 4800 0 0 [] (da dk_Md_init (k := 39) rfl) (by decide)
theorem k_Md_init_89 : am_Snd gG mt yMd_init 89 (52, 0, 0, 0, 91, []) := sd_newa 0 0 0 [] (da dk_Md_init (k := 40) rfl) rfl rfl rfl w_144 (Or.inl rfl) (by decide)
theorem k_Md_init_91 : am_Snd gG mt yMd_init 91 (41, 2, 7, 9, 94, []) := sd_putf 2 7 9 [] cTy_7 (da dk_Md_init (k := 41) rfl) rfl (by decide) hin_7 cTyok_7 cNm_7 w_659 (Or.inr ⟨rfl, rfl, rfl⟩) rfl
theorem k_Md_init_94 : am_Snd gG mt yMd_init 94 (2, 0, 0, 0, 95, []) := sd_aload_n 0 0 0 [] rfl (da dk_Md_init (k := 42) rfl)
theorem k_Md_init_95 : am_Snd gG mt yMd_init 95 (0, 160000, 0, 0, 97, []) := sd_ldc 160000 0 0 [] (da dk_Md_init (k := 43) rfl) w_649
theorem k_Md_init_97 : am_Snd gG mt yMd_init 97 (52, 0, 1, 0, 99, []) := sd_newa 0 1 0 [] (da dk_Md_init (k := 44) rfl) rfl rfl rfl w_750 (Or.inr ⟨rfl, rfl⟩) (by decide)
theorem k_Md_init_99 : am_Snd gG mt yMd_init 99 (41, 2, 7, 10, 102, []) := sd_putf 2 7 10 [] cTy_7 (da dk_Md_init (k := 45) rfl) rfl (by decide) hin_7 cTyok_7 cNm_7 w_660 (Or.inr ⟨rfl, rfl, rfl⟩) rfl
theorem k_Md_init_102 : am_Snd gG mt yMd_init 102 (2, 0, 0, 0, 103, []) := sd_aload_n 0 0 0 [] rfl (da dk_Md_init (k := 46) rfl)
theorem k_Md_init_103 : am_Snd gG mt yMd_init 103 (0, 400, 0, 0, 106, []) := sd_sipush 400 0 0 [] (da dk_Md_init (k := 47) rfl) (by decide)
theorem k_Md_init_106 : am_Snd gG mt yMd_init 106 (52, 0, 1, 0, 108, []) := sd_newa 0 1 0 [] (da dk_Md_init (k := 48) rfl) rfl rfl rfl w_750 (Or.inr ⟨rfl, rfl⟩) (by decide)
theorem k_Md_init_108 : am_Snd gG mt yMd_init 108 (41, 2, 7, 11, 111, []) := sd_putf 2 7 11 [] cTy_7 (da dk_Md_init (k := 49) rfl) rfl (by decide) hin_7 cTyok_7 cNm_7 w_661 (Or.inr ⟨rfl, rfl, rfl⟩) rfl
theorem k_Md_init_111 : am_Snd gG mt yMd_init 111 (2, 0, 0, 0, 112, []) := sd_aload_n 0 0 0 [] rfl (da dk_Md_init (k := 50) rfl)
theorem k_Md_init_112 : am_Snd gG mt yMd_init 112 (0, 9200, 0, 0, 115, []) := sd_sipush 9200 0 0 [] (da dk_Md_init (k := 51) rfl) (by decide)
theorem k_Md_init_115 : am_Snd gG mt yMd_init 115 (52, 0, 0, 0, 117, []) := sd_newa 0 0 0 [] (da dk_Md_init (k := 52) rfl) rfl rfl rfl w_144 (Or.inl rfl) (by decide)
theorem k_Md_init_117 : am_Snd gG mt yMd_init 117 (41, 2, 7, 12, 120, []) := sd_putf 2 7 12 [] cTy_7 (da dk_Md_init (k := 53) rfl) rfl (by decide) hin_7 cTyok_7 cNm_7 w_662 (Or.inr ⟨rfl, rfl, rfl⟩) rfl
theorem k_Md_init_120 : am_Snd gG mt yMd_init 120 (2, 0, 0, 0, 121, []) := sd_aload_n 0 0 0 [] rfl (da dk_Md_init (k := 54) rfl)
theorem k_Md_init_121 : am_Snd gG mt yMd_init 121 (0, 9200, 0, 0, 124, []) := sd_sipush 9200 0 0 [] (da dk_Md_init (k := 55) rfl) (by decide)
theorem k_Md_init_124 : am_Snd gG mt yMd_init 124 (52, 0, 0, 0, 126, []) := sd_newa 0 0 0 [] (da dk_Md_init (k := 56) rfl) rfl rfl rfl w_144 (Or.inl rfl) (by decide)
theorem k_Md_init_126 : am_Snd gG mt yMd_init 126 (41, 2, 7, 13, 129, []) := sd_putf 2 7 13 [] cTy_7 (da dk_Md_init (k := 57) rfl) rfl (by decide) hin_7 cTyok_7 cNm_7 w_663 (Or.inr ⟨rfl, rfl, rfl⟩) rfl
theorem k_Md_init_129 : am_Snd gG mt yMd_init 129 (2, 0, 0, 0, 130, []) := sd_aload_n 0 0 0 [] rfl (da dk_Md_init (k := 58) rfl)
theorem k_Md_init_130 : am_Snd gG mt yMd_init 130 (0, 1600, 0, 0, 133, []) := sd_sipush 1600 0 0 [] (da dk_Md_init (k := 59) rfl) (by decide)
theorem k_Md_init_133 : am_Snd gG mt yMd_init 133 (52, 0, 1, 0, 135, []) := sd_newa 0 1 0 [] (da dk_Md_init (k := 60) rfl) rfl rfl rfl w_750 (Or.inr ⟨rfl, rfl⟩) (by decide)
theorem k_Md_init_135 : am_Snd gG mt yMd_init 135 (41, 2, 7, 15, 138, []) := sd_putf 2 7 15 [] cTy_7 (da dk_Md_init (k := 61) rfl) rfl (by decide) hin_7 cTyok_7 cNm_7 w_665 (Or.inr ⟨rfl, rfl, rfl⟩) rfl
theorem k_Md_init_138 : am_Snd gG mt yMd_init 138 (2, 0, 0, 0, 139, []) := sd_aload_n 0 0 0 [] rfl (da dk_Md_init (k := 62) rfl)
theorem k_Md_init_139 : am_Snd gG mt yMd_init 139 (0, 1600, 0, 0, 142, []) := sd_sipush 1600 0 0 [] (da dk_Md_init (k := 63) rfl) (by decide)
theorem k_Md_init_142 : am_Snd gG mt yMd_init 142 (52, 0, 1, 0, 144, []) := sd_newa 0 1 0 [] (da dk_Md_init (k := 64) rfl) rfl rfl rfl w_750 (Or.inr ⟨rfl, rfl⟩) (by decide)
theorem k_Md_init_144 : am_Snd gG mt yMd_init 144 (41, 2, 7, 16, 147, []) := sd_putf 2 7 16 [] cTy_7 (da dk_Md_init (k := 65) rfl) rfl (by decide) hin_7 cTyok_7 cNm_7 w_666 (Or.inr ⟨rfl, rfl, rfl⟩) rfl
theorem k_Md_init_147 : am_Snd gG mt yMd_init 147 (2, 0, 0, 0, 148, []) := sd_aload_n 0 0 0 [] rfl (da dk_Md_init (k := 66) rfl)
theorem k_Md_init_148 : am_Snd gG mt yMd_init 148 (0, 4, 0, 0, 149, []) := sd_iconst 4 0 0 [] (da dk_Md_init (k := 67) rfl)
theorem k_Md_init_149 : am_Snd gG mt yMd_init 149 (52, 0, 0, 0, 151, []) := sd_newa 0 0 0 [] (da dk_Md_init (k := 68) rfl) rfl rfl rfl w_144 (Or.inl rfl) (by decide)
theorem k_Md_init_151 : am_Snd gG mt yMd_init 151 (41, 2, 7, 17, 154, []) := sd_putf 2 7 17 [] cTy_7 (da dk_Md_init (k := 69) rfl) rfl (by decide) hin_7 cTyok_7 cNm_7 w_667 (Or.inr ⟨rfl, rfl, rfl⟩) rfl
theorem k_Md_init_154 : am_Snd gG mt yMd_init 154 (2, 0, 0, 0, 155, []) := sd_aload_n 0 0 0 [] rfl (da dk_Md_init (k := 70) rfl)
theorem k_Md_init_155 : am_Snd gG mt yMd_init 155 (0, 92, 0, 0, 157, []) := sd_bipush 92 0 0 [] (da dk_Md_init (k := 71) rfl) (by decide)
theorem k_Md_init_157 : am_Snd gG mt yMd_init 157 (52, 0, 0, 0, 159, []) := sd_newa 0 0 0 [] (da dk_Md_init (k := 72) rfl) rfl rfl rfl w_144 (Or.inl rfl) (by decide)
theorem k_Md_init_159 : am_Snd gG mt yMd_init 159 (41, 2, 7, 18, 162, []) := sd_putf 2 7 18 [] cTy_7 (da dk_Md_init (k := 73) rfl) rfl (by decide) hin_7 cTyok_7 cNm_7 w_668 (Or.inr ⟨rfl, rfl, rfl⟩) rfl
theorem k_Md_init_162 : am_Snd gG mt yMd_init 162 (2, 0, 0, 0, 163, []) := sd_aload_n 0 0 0 [] rfl (da dk_Md_init (k := 74) rfl)
theorem k_Md_init_163 : am_Snd gG mt yMd_init 163 (0, 400, 0, 0, 166, []) := sd_sipush 400 0 0 [] (da dk_Md_init (k := 75) rfl) (by decide)
theorem k_Md_init_166 : am_Snd gG mt yMd_init 166 (52, 0, 0, 0, 168, []) := sd_newa 0 0 0 [] (da dk_Md_init (k := 76) rfl) rfl rfl rfl w_144 (Or.inl rfl) (by decide)
theorem k_Md_init_168 : am_Snd gG mt yMd_init 168 (41, 2, 7, 19, 171, []) := sd_putf 2 7 19 [] cTy_7 (da dk_Md_init (k := 77) rfl) rfl (by decide) hin_7 cTyok_7 cNm_7 w_669 (Or.inr ⟨rfl, rfl, rfl⟩) rfl
theorem k_Md_init_171 : am_Snd gG mt yMd_init 171 (2, 0, 0, 0, 172, []) := sd_aload_n 0 0 0 [] rfl (da dk_Md_init (k := 78) rfl)
theorem k_Md_init_172 : am_Snd gG mt yMd_init 172 (0, 23, 0, 0, 174, []) := sd_bipush 23 0 0 [] (da dk_Md_init (k := 79) rfl) (by decide)
theorem k_Md_init_174 : am_Snd gG mt yMd_init 174 (52, 0, 0, 0, 176, []) := sd_newa 0 0 0 [] (da dk_Md_init (k := 80) rfl) rfl rfl rfl w_144 (Or.inl rfl) (by decide)
theorem k_Md_init_176 : am_Snd gG mt yMd_init 176 (41, 2, 7, 21, 179, []) := sd_putf 2 7 21 [] cTy_7 (da dk_Md_init (k := 81) rfl) rfl (by decide) hin_7 cTyok_7 cNm_7 w_671 (Or.inr ⟨rfl, rfl, rfl⟩) rfl
theorem k_Md_init_179 : am_Snd gG mt yMd_init 179 (2, 0, 0, 0, 180, []) := sd_aload_n 0 0 0 [] rfl (da dk_Md_init (k := 82) rfl)
theorem k_Md_init_180 : am_Snd gG mt yMd_init 180 (0, 23, 0, 0, 182, []) := sd_bipush 23 0 0 [] (da dk_Md_init (k := 83) rfl) (by decide)
theorem k_Md_init_182 : am_Snd gG mt yMd_init 182 (52, 0, 0, 0, 184, []) := sd_newa 0 0 0 [] (da dk_Md_init (k := 84) rfl) rfl rfl rfl w_144 (Or.inl rfl) (by decide)
theorem k_Md_init_184 : am_Snd gG mt yMd_init 184 (41, 2, 7, 22, 187, []) := sd_putf 2 7 22 [] cTy_7 (da dk_Md_init (k := 85) rfl) rfl (by decide) hin_7 cTyok_7 cNm_7 w_672 (Or.inr ⟨rfl, rfl, rfl⟩) rfl
theorem k_Md_init_187 : am_Snd gG mt yMd_init 187 (2, 0, 0, 0, 188, []) := sd_aload_n 0 0 0 [] rfl (da dk_Md_init (k := 86) rfl)
theorem k_Md_init_188 : am_Snd gG mt yMd_init 188 (0, 400, 0, 0, 191, []) := sd_sipush 400 0 0 [] (da dk_Md_init (k := 87) rfl) (by decide)
theorem k_Md_init_191 : am_Snd gG mt yMd_init 191 (52, 0, 0, 0, 193, []) := sd_newa 0 0 0 [] (da dk_Md_init (k := 88) rfl) rfl rfl rfl w_144 (Or.inl rfl) (by decide)
theorem k_Md_init_193 : am_Snd gG mt yMd_init 193 (41, 2, 7, 23, 196, []) := sd_putf 2 7 23 [] cTy_7 (da dk_Md_init (k := 89) rfl) rfl (by decide) hin_7 cTyok_7 cNm_7 w_673 (Or.inr ⟨rfl, rfl, rfl⟩) rfl
theorem k_Md_init_196 : am_Snd gG mt yMd_init 196 (2, 0, 0, 0, 197, []) := sd_aload_n 0 0 0 [] rfl (da dk_Md_init (k := 90) rfl)
theorem k_Md_init_197 : am_Snd gG mt yMd_init 197 (0, 400, 0, 0, 200, []) := sd_sipush 400 0 0 [] (da dk_Md_init (k := 91) rfl) (by decide)
theorem k_Md_init_200 : am_Snd gG mt yMd_init 200 (52, 0, 1, 0, 202, []) := sd_newa 0 1 0 [] (da dk_Md_init (k := 92) rfl) rfl rfl rfl w_750 (Or.inr ⟨rfl, rfl⟩) (by decide)
theorem k_Md_init_202 : am_Snd gG mt yMd_init 202 (41, 2, 7, 24, 205, []) := sd_putf 2 7 24 [] cTy_7 (da dk_Md_init (k := 93) rfl) rfl (by decide) hin_7 cTyok_7 cNm_7 w_674 (Or.inr ⟨rfl, rfl, rfl⟩) rfl
theorem k_Md_init_205 : am_Snd gG mt yMd_init 205 (2, 0, 0, 0, 206, []) := sd_aload_n 0 0 0 [] rfl (da dk_Md_init (k := 94) rfl)
theorem k_Md_init_206 : am_Snd gG mt yMd_init 206 (0, 400, 0, 0, 209, []) := sd_sipush 400 0 0 [] (da dk_Md_init (k := 95) rfl) (by decide)
theorem k_Md_init_209 : am_Snd gG mt yMd_init 209 (52, 0, 1, 0, 211, []) := sd_newa 0 1 0 [] (da dk_Md_init (k := 96) rfl) rfl rfl rfl w_750 (Or.inr ⟨rfl, rfl⟩) (by decide)
theorem k_Md_init_211 : am_Snd gG mt yMd_init 211 (41, 2, 7, 25, 214, []) := sd_putf 2 7 25 [] cTy_7 (da dk_Md_init (k := 97) rfl) rfl (by decide) hin_7 cTyok_7 cNm_7 w_675 (Or.inr ⟨rfl, rfl, rfl⟩) rfl
theorem k_Md_init_214 : am_Snd gG mt yMd_init 214 (2, 0, 0, 0, 215, []) := sd_aload_n 0 0 0 [] rfl (da dk_Md_init (k := 98) rfl)
theorem k_Md_init_215 : am_Snd gG mt yMd_init 215 (0, 400, 0, 0, 218, []) := sd_sipush 400 0 0 [] (da dk_Md_init (k := 99) rfl) (by decide)
theorem k_Md_init_218 : am_Snd gG mt yMd_init 218 (52, 0, 1, 0, 220, []) := sd_newa 0 1 0 [] (da dk_Md_init (k := 100) rfl) rfl rfl rfl w_750 (Or.inr ⟨rfl, rfl⟩) (by decide)
theorem k_Md_init_220 : am_Snd gG mt yMd_init 220 (41, 2, 7, 26, 223, []) := sd_putf 2 7 26 [] cTy_7 (da dk_Md_init (k := 101) rfl) rfl (by decide) hin_7 cTyok_7 cNm_7 w_676 (Or.inr ⟨rfl, rfl, rfl⟩) rfl
theorem k_Md_init_223 : am_Snd gG mt yMd_init 223 (2, 0, 0, 0, 224, []) := sd_aload_n 0 0 0 [] rfl (da dk_Md_init (k := 102) rfl)
theorem k_Md_init_224 : am_Snd gG mt yMd_init 224 (0, 400, 0, 0, 227, []) := sd_sipush 400 0 0 [] (da dk_Md_init (k := 103) rfl) (by decide)
theorem k_Md_init_227 : am_Snd gG mt yMd_init 227 (52, 0, 0, 0, 229, []) := sd_newa 0 0 0 [] (da dk_Md_init (k := 104) rfl) rfl rfl rfl w_144 (Or.inl rfl) (by decide)
theorem k_Md_init_229 : am_Snd gG mt yMd_init 229 (41, 2, 7, 27, 232, []) := sd_putf 2 7 27 [] cTy_7 (da dk_Md_init (k := 105) rfl) rfl (by decide) hin_7 cTyok_7 cNm_7 w_677 (Or.inr ⟨rfl, rfl, rfl⟩) rfl
theorem k_Md_init_232 : am_Snd gG mt yMd_init 232 (2, 0, 0, 0, 233, []) := sd_aload_n 0 0 0 [] rfl (da dk_Md_init (k := 106) rfl)
theorem k_Md_init_233 : am_Snd gG mt yMd_init 233 (0, 23, 0, 0, 235, []) := sd_bipush 23 0 0 [] (da dk_Md_init (k := 107) rfl) (by decide)
theorem k_Md_init_235 : am_Snd gG mt yMd_init 235 (52, 0, 0, 0, 237, []) := sd_newa 0 0 0 [] (da dk_Md_init (k := 108) rfl) rfl rfl rfl w_144 (Or.inl rfl) (by decide)
theorem k_Md_init_237 : am_Snd gG mt yMd_init 237 (41, 2, 7, 29, 240, []) := sd_putf 2 7 29 [] cTy_7 (da dk_Md_init (k := 109) rfl) rfl (by decide) hin_7 cTyok_7 cNm_7 w_679 (Or.inr ⟨rfl, rfl, rfl⟩) rfl
theorem k_Md_init_240 : am_Snd gG mt yMd_init 240 (2, 0, 0, 0, 241, []) := sd_aload_n 0 0 0 [] rfl (da dk_Md_init (k := 110) rfl)
theorem k_Md_init_241 : am_Snd gG mt yMd_init 241 (0, 23, 0, 0, 243, []) := sd_bipush 23 0 0 [] (da dk_Md_init (k := 111) rfl) (by decide)
theorem k_Md_init_243 : am_Snd gG mt yMd_init 243 (52, 0, 0, 0, 245, []) := sd_newa 0 0 0 [] (da dk_Md_init (k := 112) rfl) rfl rfl rfl w_144 (Or.inl rfl) (by decide)
theorem k_Md_init_245 : am_Snd gG mt yMd_init 245 (41, 2, 7, 30, 248, []) := sd_putf 2 7 30 [] cTy_7 (da dk_Md_init (k := 113) rfl) rfl (by decide) hin_7 cTyok_7 cNm_7 w_680 (Or.inr ⟨rfl, rfl, rfl⟩) rfl
theorem k_Md_init_248 : am_Snd gG mt yMd_init 248 (2, 0, 0, 0, 249, []) := sd_aload_n 0 0 0 [] rfl (da dk_Md_init (k := 114) rfl)
theorem k_Md_init_249 : am_Snd gG mt yMd_init 249 (0, 6, 0, 0, 251, []) := sd_bipush 6 0 0 [] (da dk_Md_init (k := 115) rfl) (by decide)
theorem k_Md_init_251 : am_Snd gG mt yMd_init 251 (52, 0, 0, 0, 253, []) := sd_newa 0 0 0 [] (da dk_Md_init (k := 116) rfl) rfl rfl rfl w_144 (Or.inl rfl) (by decide)
theorem k_Md_init_253 : am_Snd gG mt yMd_init 253 (41, 2, 7, 31, 256, []) := sd_putf 2 7 31 [] cTy_7 (da dk_Md_init (k := 117) rfl) rfl (by decide) hin_7 cTyok_7 cNm_7 w_681 (Or.inr ⟨rfl, rfl, rfl⟩) rfl
theorem k_Md_init_256 : am_Snd gG mt yMd_init 256 (0, 0, 0, 0, 257, []) := sd_iconst 0 0 0 [] (da dk_Md_init (k := 118) rfl)
theorem k_Md_init_257 : am_Snd gG mt yMd_init 257 (3, 0, 1, 0, 258, []) := sd_istore_n 0 1 0 [] rfl (da dk_Md_init (k := 119) rfl)
theorem k_Md_init_258 : am_Snd gG mt yMd_init 258 (1, 0, 1, 0, 259, []) := sd_iload_n 0 1 0 [] rfl (da dk_Md_init (k := 120) rfl)
theorem k_Md_init_259 : am_Snd gG mt yMd_init 259 (2, 0, 0, 0, 260, []) := sd_aload_n 0 0 0 [] rfl (da dk_Md_init (k := 121) rfl)
theorem k_Md_init_260 : am_Snd gG mt yMd_init 260 (40, 0, 7, 18, 263, []) := sd_getf 0 7 18 [] (da dk_Md_init (k := 122) rfl) rfl (by decide) hin_7 w_668
theorem k_Md_init_263 : am_Snd gG mt yMd_init 263 (50, 0, 0, 0, 264, []) := sd_alen 0 0 0 [] (da dk_Md_init (k := 123) rfl)
theorem k_Md_init_264 : am_Snd gG mt yMd_init 264 (31, 0, 280, 3, 267, []) := sd_icmp_ge 0 280 [] (da dk_Md_init (k := 124) rfl) (by decide)
theorem k_Md_init_267 : am_Snd gG mt yMd_init 267 (2, 0, 0, 0, 268, []) := sd_aload_n 0 0 0 [] rfl (da dk_Md_init (k := 125) rfl)
theorem k_Md_init_268 : am_Snd gG mt yMd_init 268 (40, 0, 7, 18, 271, []) := sd_getf 0 7 18 [] (da dk_Md_init (k := 126) rfl) rfl (by decide) hin_7 w_668
theorem k_Md_init_271 : am_Snd gG mt yMd_init 271 (1, 0, 1, 0, 272, []) := sd_iload_n 0 1 0 [] rfl (da dk_Md_init (k := 127) rfl)
theorem k_Md_init_272 : am_Snd gG mt yMd_init 272 (0, (-1), 0, 0, 273, []) := sd_iconst (-1) 0 0 [] (da dk_Md_init (k := 128) rfl)
theorem k_Md_init_273 : am_Snd gG mt yMd_init 273 (46, 0, 0, 0, 274, []) := sd_iast 0 0 0 [] (da dk_Md_init (k := 129) rfl) rfl rfl
theorem k_Md_init_274 : am_Snd gG mt yMd_init 274 (5, 1, 1, 0, 277, []) := sd_iinc 1 1 0 [] (da dk_Md_init (k := 130) rfl)
theorem k_Md_init_277 : am_Snd gG mt yMd_init 277 (26, 0, 258, 0, 280, []) := sd_goto 0 258 0 280 [] (da dk_Md_init (k := 131) rfl) (by decide)
theorem k_Md_init_280 : am_Snd gG mt yMd_init 280 (70, 0, 0, 0, 281, []) := sd_ret 0 0 0 281 [] (da dk_Md_init (k := 132) rfl) rfl
set_option maxRecDepth 20000 in
theorem ks_Md_init : ∀ q ∈ tMd_init, am_Snd gG mt yMd_init q.1 q.2 := List.forall_mem_cons.2 ⟨k_Md_init_0, List.forall_mem_cons.2 ⟨k_Md_init_1, List.forall_mem_cons.2 ⟨k_Md_init_4, List.forall_mem_cons.2 ⟨k_Md_init_5, List.forall_mem_cons.2 ⟨k_Md_init_8, List.forall_mem_cons.2 ⟨k_Md_init_10, List.forall_mem_cons.2 ⟨k_Md_init_13, List.forall_mem_cons.2 ⟨k_Md_init_14, List.forall_mem_cons.2 ⟨k_Md_init_17, List.forall_mem_cons.2 ⟨k_Md_init_19, List.forall_mem_cons.2 ⟨k_Md_init_22, List.forall_mem_cons.2 ⟨k_Md_init_23, List.forall_mem_cons.2 ⟨k_Md_init_26, List.forall_mem_cons.2 ⟨k_Md_init_28, List.forall_mem_cons.2 ⟨k_Md_init_31, List.forall_mem_cons.2 ⟨k_Md_init_32, List.forall_mem_cons.2 ⟨k_Md_init_35, List.forall_mem_cons.2 ⟨k_Md_init_37, List.forall_mem_cons.2 ⟨k_Md_init_40, List.forall_mem_cons.2 ⟨k_Md_init_41, List.forall_mem_cons.2 ⟨k_Md_init_44, List.forall_mem_cons.2 ⟨k_Md_init_46, List.forall_mem_cons.2 ⟨k_Md_init_49, List.forall_mem_cons.2 ⟨k_Md_init_50, List.forall_mem_cons.2 ⟨k_Md_init_53, List.forall_mem_cons.2 ⟨k_Md_init_55, List.forall_mem_cons.2 ⟨k_Md_init_58, List.forall_mem_cons.2 ⟨k_Md_init_59, List.forall_mem_cons.2 ⟨k_Md_init_62, List.forall_mem_cons.2 ⟨k_Md_init_64, List.forall_mem_cons.2 ⟨k_Md_init_67, List.forall_mem_cons.2 ⟨k_Md_init_68, List.forall_mem_cons.2 ⟨k_Md_init_71, List.forall_mem_cons.2 ⟨k_Md_init_73, List.forall_mem_cons.2 ⟨k_Md_init_76, List.forall_mem_cons.2 ⟨k_Md_init_77, List.forall_mem_cons.2 ⟨k_Md_init_80, List.forall_mem_cons.2 ⟨k_Md_init_82, List.forall_mem_cons.2 ⟨k_Md_init_85, List.forall_mem_cons.2 ⟨k_Md_init_86, List.forall_mem_cons.2 ⟨k_Md_init_89, List.forall_mem_cons.2 ⟨k_Md_init_91, List.forall_mem_cons.2 ⟨k_Md_init_94, List.forall_mem_cons.2 ⟨k_Md_init_95, List.forall_mem_cons.2 ⟨k_Md_init_97, List.forall_mem_cons.2 ⟨k_Md_init_99, List.forall_mem_cons.2 ⟨k_Md_init_102, List.forall_mem_cons.2 ⟨k_Md_init_103, List.forall_mem_cons.2 ⟨k_Md_init_106, List.forall_mem_cons.2 ⟨k_Md_init_108, List.forall_mem_cons.2 ⟨k_Md_init_111, List.forall_mem_cons.2 ⟨k_Md_init_112, List.forall_mem_cons.2 ⟨k_Md_init_115, List.forall_mem_cons.2 ⟨k_Md_init_117, List.forall_mem_cons.2 ⟨k_Md_init_120, List.forall_mem_cons.2 ⟨k_Md_init_121, List.forall_mem_cons.2 ⟨k_Md_init_124, List.forall_mem_cons.2 ⟨k_Md_init_126, List.forall_mem_cons.2 ⟨k_Md_init_129, List.forall_mem_cons.2 ⟨k_Md_init_130, List.forall_mem_cons.2 ⟨k_Md_init_133, List.forall_mem_cons.2 ⟨k_Md_init_135, List.forall_mem_cons.2 ⟨k_Md_init_138, List.forall_mem_cons.2 ⟨k_Md_init_139, List.forall_mem_cons.2 ⟨k_Md_init_142, List.forall_mem_cons.2 ⟨k_Md_init_144, List.forall_mem_cons.2 ⟨k_Md_init_147, List.forall_mem_cons.2 ⟨k_Md_init_148, List.forall_mem_cons.2 ⟨k_Md_init_149, List.forall_mem_cons.2 ⟨k_Md_init_151, List.forall_mem_cons.2 ⟨k_Md_init_154, List.forall_mem_cons.2 ⟨k_Md_init_155, List.forall_mem_cons.2 ⟨k_Md_init_157, List.forall_mem_cons.2 ⟨k_Md_init_159, List.forall_mem_cons.2 ⟨k_Md_init_162, List.forall_mem_cons.2 ⟨k_Md_init_163, List.forall_mem_cons.2 ⟨k_Md_init_166, List.forall_mem_cons.2 ⟨k_Md_init_168, List.forall_mem_cons.2 ⟨k_Md_init_171, List.forall_mem_cons.2 ⟨k_Md_init_172, List.forall_mem_cons.2 ⟨k_Md_init_174, List.forall_mem_cons.2 ⟨k_Md_init_176, List.forall_mem_cons.2 ⟨k_Md_init_179, List.forall_mem_cons.2 ⟨k_Md_init_180, List.forall_mem_cons.2 ⟨k_Md_init_182, List.forall_mem_cons.2 ⟨k_Md_init_184, List.forall_mem_cons.2 ⟨k_Md_init_187, List.forall_mem_cons.2 ⟨k_Md_init_188, List.forall_mem_cons.2 ⟨k_Md_init_191, List.forall_mem_cons.2 ⟨k_Md_init_193, List.forall_mem_cons.2 ⟨k_Md_init_196, List.forall_mem_cons.2 ⟨k_Md_init_197, List.forall_mem_cons.2 ⟨k_Md_init_200, List.forall_mem_cons.2 ⟨k_Md_init_202, List.forall_mem_cons.2 ⟨k_Md_init_205, List.forall_mem_cons.2 ⟨k_Md_init_206, List.forall_mem_cons.2 ⟨k_Md_init_209, List.forall_mem_cons.2 ⟨k_Md_init_211, List.forall_mem_cons.2 ⟨k_Md_init_214, List.forall_mem_cons.2 ⟨k_Md_init_215, List.forall_mem_cons.2 ⟨k_Md_init_218, List.forall_mem_cons.2 ⟨k_Md_init_220, List.forall_mem_cons.2 ⟨k_Md_init_223, List.forall_mem_cons.2 ⟨k_Md_init_224, List.forall_mem_cons.2 ⟨k_Md_init_227, List.forall_mem_cons.2 ⟨k_Md_init_229, List.forall_mem_cons.2 ⟨k_Md_init_232, List.forall_mem_cons.2 ⟨k_Md_init_233, List.forall_mem_cons.2 ⟨k_Md_init_235, List.forall_mem_cons.2 ⟨k_Md_init_237, List.forall_mem_cons.2 ⟨k_Md_init_240, List.forall_mem_cons.2 ⟨k_Md_init_241, List.forall_mem_cons.2 ⟨k_Md_init_243, List.forall_mem_cons.2 ⟨k_Md_init_245, List.forall_mem_cons.2 ⟨k_Md_init_248, List.forall_mem_cons.2 ⟨k_Md_init_249, List.forall_mem_cons.2 ⟨k_Md_init_251, List.forall_mem_cons.2 ⟨k_Md_init_253, List.forall_mem_cons.2 ⟨k_Md_init_256, List.forall_mem_cons.2 ⟨k_Md_init_257, List.forall_mem_cons.2 ⟨k_Md_init_258, List.forall_mem_cons.2 ⟨k_Md_init_259, List.forall_mem_cons.2 ⟨k_Md_init_260, List.forall_mem_cons.2 ⟨k_Md_init_263, List.forall_mem_cons.2 ⟨k_Md_init_264, List.forall_mem_cons.2 ⟨k_Md_init_267, List.forall_mem_cons.2 ⟨k_Md_init_268, List.forall_mem_cons.2 ⟨k_Md_init_271, List.forall_mem_cons.2 ⟨k_Md_init_272, List.forall_mem_cons.2 ⟨k_Md_init_273, List.forall_mem_cons.2 ⟨k_Md_init_274, List.forall_mem_cons.2 ⟨k_Md_init_277, List.forall_mem_cons.2 ⟨k_Md_init_280, fun _ h => absurd h List.not_mem_nil⟩⟩⟩⟩⟩⟩⟩⟩⟩⟩⟩⟩⟩⟩⟩⟩⟩⟩⟩⟩⟩⟩⟩⟩⟩⟩⟩⟩⟩⟩⟩⟩⟩⟩⟩⟩⟩⟩⟩⟩⟩⟩⟩⟩⟩⟩⟩⟩⟩⟩⟩⟩⟩⟩⟩⟩⟩⟩⟩⟩⟩⟩⟩⟩⟩⟩⟩⟩⟩⟩⟩⟩⟩⟩⟩⟩⟩⟩⟩⟩⟩⟩⟩⟩⟩⟩⟩⟩⟩⟩⟩⟩⟩⟩⟩⟩⟩⟩⟩⟩⟩⟩⟩⟩⟩⟩⟩⟩⟩⟩⟩⟩⟩⟩⟩⟩⟩⟩⟩⟩⟩⟩⟩⟩⟩⟩⟩⟩⟩⟩⟩⟩⟩
def dl_Md_send : List (Nat × Instr × Nat) := [(0, .iload_n 1, 1), (1, .iload_n 2, 1), (2, .iload_n 3, 1), (3, .iload 4, 2), (5, .invokestatic 197, 3), (8, .ifCond .eq 5, 3), (11, .iconst (-1), 1), (12, .ireturn, 1), (13, .aload_n 0, 1), (14, .getfield 131, 3), (17, .sipush 400, 3), (20, .if_icmp .ne 6, 3), (23, .bipush (-3), 2), (25, .ireturn, 1), (26, .iload_n 1, 1), (27, .iconst 4, 1), (28, .irem, 1), (29, .istore 6, 2), (31, .aload_n 0, 1), (32, .getfield 131, 3), (35, .istore 7, 2), (37, .aload_n 0, 1), (38, .iload_n 1, 1), (39, .iload_n 2, 1), (40, .iload_n 3, 1), (41, .iload 4, 2), (43, .iload 5, 2), (45, .invokevirtual 201, 3), (48, .aload_n 0, 1), (49, .getfield 131, 3), (52, .iconst 1, 1), (53, .isub, 1), (54, .istore 8, 2), (56, .iload 8, 2), (58, .ifCond .lt 64, 3), (61, .aload_n 0, 1), (62, .getfield 28, 3), (65, .iload 7, 2), (67, .iaload, 1), (68, .iconst 4, 1), (69, .if_icmp .eq 47, 3), (72, .aload_n 0, 1), (73, .iload 6, 2), (75, .iload 8, 2), (77, .invokevirtual 194, 3), (80, .ifCond .ne 6, 3), (83, .goto 33, 3), (86, .aload_n 0, 1), (87, .getfield 25, 3), (90, .iconst 4, 1), (91, .iload 7, 2), (93, .imul, 1), (94, .aload_n 0, 1), (95, .getfield 28, 3), (98, .iload 7, 2), (100, .iaload, 1), (101, .iadd, 1), (102, .iload 8, 2), (104, .iastore, 1), (105, .aload_n 0, 1), (106, .getfield 28, 3), (109, .iload 7, 2), (111, .dup2, 1), (112, .iaload, 1), (113, .iconst 1, 1), (114, .iadd, 1), (115, .iastore, 1), (116, .iinc 8 (-1), 3), (119, .goto (-63), 3), (122, .aload_n 0, 1), (123, .aload_n 0, 1), (124, .getfield 63, 3), (127, .bipush 23, 2), (129, .iload 6, 2), (131, .imul, 1), (132, .invokevirtual 205, 3), (135, .aload_n 0, 1), (136, .iload 7, 2), (138, .aload_n 0, 1), (139, .getfield 63, 3), (142, .bipush 23, 2), (144, .iload 6, 2), (146, .imul, 1), (147, .invokevirtual 143, 3), (150, .ifCond .ne 6, 3), (153, .bipush (-4), 2), (155, .ireturn, 1), (156, .aload_n 0, 1), (157, .invokevirtual 209, 3), (160, .aload_n 0, 1), (161, .getfield 54, 3), (164, .sipush 400, 3), (167, .iload 6, 2), (169, .imul, 1), (170, .iload 7, 2), (172, .iadd, 1), (173, .iconst 1, 1), (174, .bastore, 1), (175, .aload_n 0, 1), (176, .iload 6, 2), (178, .invokevirtual 212, 3), (181, .iload 7, 2), (183, .ireturn, 1)]
set_option maxRecDepth 20000 in
theorem dk_Md_send : (dl_Md_send.all fun q => decide (decode prog_10_method_32_code q.1 = .ok (q.2.1, q.2.2))) = true := by decide +kernel
theorem k_Md_send_0 : am_Snd gG mt yMd_send 0 (1, 0, 1, 0, 1, []) := sd_iload_n 0 1 0 [] rfl (da dk_Md_send (k := 0) rfl)
theorem k_Md_send_1 : am_Snd gG mt yMd_send 1 (1, 0, 2, 0, 2, []) := sd_iload_n 0 2 0 [] rfl (da dk_Md_send (k := 1) rfl)
theorem k_Md_send_2 : am_Snd gG mt yMd_send 2 (1, 0, 3, 0, 3, []) := sd_iload_n 0 3 0 [] rfl (da dk_Md_send (k := 2) rfl)
theorem k_Md_send_3 : am_Snd gG mt yMd_send 3 (1, 0, 4, 0, 5, []) := sd_iload 0 4 0 [] (da dk_Md_send (k := 3) rfl)
theorem k_Md_send_5 : am_Snd gG mt yMd_send 5 (60, 0, 95, 4, 8, []) := sd_callS 0 95 4 [] mt_95 (da dk_Md_send (k := 4) rfl) gG_ok w_757 (List.forall_mem_cons.2 ⟨w_755, List.forall_mem_cons.2 ⟨w_756, List.forall_mem_cons.2 ⟨w_53, fun _ h => absurd h List.not_mem_nil⟩⟩⟩) hd_95 rfl (Nat.le_of_ble_eq_true rfl) (Nat.le_of_ble_eq_true rfl)
theorem k_Md_send_8 : am_Snd gG mt yMd_send 8 (30, 0, 13, 0, 11, []) := sd_if_eq 0 13 [] (da dk_Md_send (k := 5) rfl) (by decide)
theorem k_Md_send_11 : am_Snd gG mt yMd_send 11 (0, (-1), 0, 0, 12, []) := sd_iconst (-1) 0 0 [] (da dk_Md_send (k := 6) rfl)
theorem k_Md_send_12 : am_Snd gG mt yMd_send 12 (71, 0, 0, 0, 13, []) := sd_iret 0 0 0 13 [] (da dk_Md_send (k := 7) rfl) rfl
theorem k_Md_send_13 : am_Snd gG mt yMd_send 13 (2, 0, 0, 0, 14, []) := sd_aload_n 0 0 0 [] rfl (da dk_Md_send (k := 8) rfl)
theorem k_Md_send_14 : am_Snd gG mt yMd_send 14 (40, 0, 7, 14, 17, []) := sd_getf 0 7 14 [] (da dk_Md_send (k := 9) rfl) rfl (by decide) hin_7 w_664
theorem k_Md_send_17 : am_Snd gG mt yMd_send 17 (0, 400, 0, 0, 20, []) := sd_sipush 400 0 0 [] (da dk_Md_send (k := 10) rfl) (by decide)
theorem k_Md_send_20 : am_Snd gG mt yMd_send 20 (31, 0, 26, 1, 23, []) := sd_icmp_ne 0 26 [] (da dk_Md_send (k := 11) rfl) (by decide)
theorem k_Md_send_23 : am_Snd gG mt yMd_send 23 (0, (-3), 0, 0, 25, []) := sd_bipush (-3) 0 0 [] (da dk_Md_send (k := 12) rfl) (by decide)
theorem k_Md_send_25 : am_Snd gG mt yMd_send 25 (71, 0, 0, 0, 26, []) := sd_iret 0 0 0 26 [] (da dk_Md_send (k := 13) rfl) rfl
theorem k_Md_send_26 : am_Snd gG mt yMd_send 26 (1, 0, 1, 0, 27, []) := sd_iload_n 0 1 0 [] rfl (da dk_Md_send (k := 14) rfl)
theorem k_Md_send_27 : am_Snd gG mt yMd_send 27 (0, 4, 0, 0, 28, []) := sd_iconst 4 0 0 [] (da dk_Md_send (k := 15) rfl)
theorem k_Md_send_28 : am_Snd gG mt yMd_send 28 (12, 0, 0, 0, 29, []) := sd_irem 0 0 0 [] (da dk_Md_send (k := 16) rfl)
theorem k_Md_send_29 : am_Snd gG mt yMd_send 29 (3, 0, 6, 0, 31, []) := sd_istore 0 6 0 [] (da dk_Md_send (k := 17) rfl)
theorem k_Md_send_31 : am_Snd gG mt yMd_send 31 (2, 0, 0, 0, 32, []) := sd_aload_n 0 0 0 [] rfl (da dk_Md_send (k := 18) rfl)
theorem k_Md_send_32 : am_Snd gG mt yMd_send 32 (40, 0, 7, 14, 35, []) := sd_getf 0 7 14 [] (da dk_Md_send (k := 19) rfl) rfl (by decide) hin_7 w_664
theorem k_Md_send_35 : am_Snd gG mt yMd_send 35 (3, 0, 7, 0, 37, []) := sd_istore 0 7 0 [] (da dk_Md_send (k := 20) rfl)
theorem k_Md_send_37 : am_Snd gG mt yMd_send 37 (2, 0, 0, 0, 38, []) := sd_aload_n 0 0 0 [] rfl (da dk_Md_send (k := 21) rfl)
theorem k_Md_send_38 : am_Snd gG mt yMd_send 38 (1, 0, 1, 0, 39, []) := sd_iload_n 0 1 0 [] rfl (da dk_Md_send (k := 22) rfl)
theorem k_Md_send_39 : am_Snd gG mt yMd_send 39 (1, 0, 2, 0, 40, []) := sd_iload_n 0 2 0 [] rfl (da dk_Md_send (k := 23) rfl)
theorem k_Md_send_40 : am_Snd gG mt yMd_send 40 (1, 0, 3, 0, 41, []) := sd_iload_n 0 3 0 [] rfl (da dk_Md_send (k := 24) rfl)
theorem k_Md_send_41 : am_Snd gG mt yMd_send 41 (1, 0, 4, 0, 43, []) := sd_iload 0 4 0 [] (da dk_Md_send (k := 25) rfl)
theorem k_Md_send_43 : am_Snd gG mt yMd_send 43 (1, 0, 5, 0, 45, []) := sd_iload 0 5 0 [] (da dk_Md_send (k := 26) rfl)
theorem k_Md_send_45 : am_Snd gG mt yMd_send 45 (61, 1, 96, 6, 48, [(0, 7)]) := sd_callV 1 96 6 7 mt_96 (da dk_Md_send (k := 27) rfl) gG_ok rfl w_761 (List.forall_mem_cons.2 ⟨w_758, List.forall_mem_cons.2 ⟨w_760, List.forall_mem_cons.2 ⟨w_16, List.forall_mem_cons.2 ⟨w_53, fun _ h => absurd h List.not_mem_nil⟩⟩⟩⟩) hd_96 (by decide) rfl (Nat.le_of_ble_eq_true rfl) (Nat.le_of_ble_eq_true rfl)
theorem k_Md_send_48 : am_Snd gG mt yMd_send 48 (2, 0, 0, 0, 49, []) := sd_aload_n 0 0 0 [] rfl (da dk_Md_send (k := 28) rfl)
theorem k_Md_send_49 : am_Snd gG mt yMd_send 49 (40, 0, 7, 14, 52, []) := sd_getf 0 7 14 [] (da dk_Md_send (k := 29) rfl) rfl (by decide) hin_7 w_664
theorem k_Md_send_52 : am_Snd gG mt yMd_send 52 (0, 1, 0, 0, 53, []) := sd_iconst 1 0 0 [] (da dk_Md_send (k := 30) rfl)
theorem k_Md_send_53 : am_Snd gG mt yMd_send 53 (7, 0, 0, 0, 54, []) := sd_isub 0 0 0 [] (da dk_Md_send (k := 31) rfl)
theorem k_Md_send_54 : am_Snd gG mt yMd_send 54 (3, 0, 8, 0, 56, []) := sd_istore 0 8 0 [] (da dk_Md_send (k := 32) rfl)
theorem k_Md_send_56 : am_Snd gG mt yMd_send 56 (1, 0, 8, 0, 58, []) := sd_iload 0 8 0 [] (da dk_Md_send (k := 33) rfl)
theorem k_Md_send_58 : am_Snd gG mt yMd_send 58 (30, 0, 122, 2, 61, []) := sd_if_lt 0 122 [] (da dk_Md_send (k := 34) rfl) (by decide)
theorem k_Md_send_61 : am_Snd gG mt yMd_send 61 (2, 0, 0, 0, 62, []) := sd_aload_n 0 0 0 [] rfl (da dk_Md_send (k := 35) rfl)
theorem k_Md_send_62 : am_Snd gG mt yMd_send 62 (40, 0, 7, 6, 65, []) := sd_getf 0 7 6 [] (da dk_Md_send (k := 36) rfl) rfl (by decide) hin_7 w_656
theorem k_Md_send_65 : am_Snd gG mt yMd_send 65 (1, 0, 7, 0, 67, []) := sd_iload 0 7 0 [] (da dk_Md_send (k := 37) rfl)
theorem k_Md_send_67 : am_Snd gG mt yMd_send 67 (42, 0, 0, 0, 68, []) := sd_iald 0 0 0 [] (da dk_Md_send (k := 38) rfl) rfl rfl
theorem k_Md_send_68 : am_Snd gG mt yMd_send 68 (0, 4, 0, 0, 69, []) := sd_iconst 4 0 0 [] (da dk_Md_send (k := 39) rfl)
theorem k_Md_send_69 : am_Snd gG mt yMd_send 69 (31, 0, 116, 0, 72, []) := sd_icmp_eq 0 116 [] (da dk_Md_send (k := 40) rfl) (by decide)
theorem k_Md_send_72 : am_Snd gG mt yMd_send 72 (2, 0, 0, 0, 73, []) := sd_aload_n 0 0 0 [] rfl (da dk_Md_send (k := 41) rfl)
theorem k_Md_send_73 : am_Snd gG mt yMd_send 73 (1, 0, 6, 0, 75, []) := sd_iload 0 6 0 [] (da dk_Md_send (k := 42) rfl)
theorem k_Md_send_75 : am_Snd gG mt yMd_send 75 (1, 0, 8, 0, 77, []) := sd_iload 0 8 0 [] (da dk_Md_send (k := 43) rfl)
theorem k_Md_send_77 : am_Snd gG mt yMd_send 77 (61, 2, 97, 3, 80, [(0, 7)]) := sd_callV 2 97 3 7 mt_97 (da dk_Md_send (k := 44) rfl) gG_ok rfl w_765 (List.forall_mem_cons.2 ⟨w_762, List.forall_mem_cons.2 ⟨w_764, List.forall_mem_cons.2 ⟨w_17, List.forall_mem_cons.2 ⟨w_53, fun _ h => absurd h List.not_mem_nil⟩⟩⟩⟩) hd_97 (by decide) rfl (Nat.le_of_ble_eq_true rfl) (Nat.le_of_ble_eq_true rfl)
theorem k_Md_send_80 : am_Snd gG mt yMd_send 80 (30, 0, 86, 1, 83, []) := sd_if_ne 0 86 [] (da dk_Md_send (k := 45) rfl) (by decide)
theorem k_Md_send_83 : am_Snd gG mt yMd_send 83 (26, 0, 116, 0, 86, []) := sd_goto 0 116 0 86 [] (da dk_Md_send (k := 46) rfl) (by decide)
theorem k_Md_send_86 : am_Snd gG mt yMd_send 86 (2, 0, 0, 0, 87, []) := sd_aload_n 0 0 0 [] rfl (da dk_Md_send (k := 47) rfl)
theorem k_Md_send_87 : am_Snd gG mt yMd_send 87 (40, 0, 7, 5, 90, []) := sd_getf 0 7 5 [] (da dk_Md_send (k := 48) rfl) rfl (by decide) hin_7 w_655
theorem k_Md_send_90 : am_Snd gG mt yMd_send 90 (0, 4, 0, 0, 91, []) := sd_iconst 4 0 0 [] (da dk_Md_send (k := 49) rfl)
theorem k_Md_send_91 : am_Snd gG mt yMd_send 91 (1, 0, 7, 0, 93, []) := sd_iload 0 7 0 [] (da dk_Md_send (k := 50) rfl)
theorem k_Md_send_93 : am_Snd gG mt yMd_send 93 (8, 0, 0, 0, 94, []) := sd_imul 0 0 0 [] (da dk_Md_send (k := 51) rfl)
theorem k_Md_send_94 : am_Snd gG mt yMd_send 94 (2, 0, 0, 0, 95, []) := sd_aload_n 0 0 0 [] rfl (da dk_Md_send (k := 52) rfl)
theorem k_Md_send_95 : am_Snd gG mt yMd_send 95 (40, 0, 7, 6, 98, []) := sd_getf 0 7 6 [] (da dk_Md_send (k := 53) rfl) rfl (by decide) hin_7 w_656
theorem k_Md_send_98 : am_Snd gG mt yMd_send 98 (1, 0, 7, 0, 100, []) := sd_iload 0 7 0 [] (da dk_Md_send (k := 54) rfl)
theorem k_Md_send_100 : am_Snd gG mt yMd_send 100 (42, 0, 0, 0, 101, []) := sd_iald 0 0 0 [] (da dk_Md_send (k := 55) rfl) rfl rfl
theorem k_Md_send_101 : am_Snd gG mt yMd_send 101 (6, 0, 0, 0, 102, []) := sd_iadd 0 0 0 [] (da dk_Md_send (k := 56) rfl)
theorem k_Md_send_102 : am_Snd gG mt yMd_send 102 (1, 0, 8, 0, 104, []) := sd_iload 0 8 0 [] (da dk_Md_send (k := 57) rfl)
theorem k_Md_send_104 : am_Snd gG mt yMd_send 104 (46, 0, 0, 0, 105, []) := sd_iast 0 0 0 [] (da dk_Md_send (k := 58) rfl) rfl rfl
theorem k_Md_send_105 : am_Snd gG mt yMd_send 105 (2, 0, 0, 0, 106, []) := sd_aload_n 0 0 0 [] rfl (da dk_Md_send (k := 59) rfl)
theorem k_Md_send_106 : am_Snd gG mt yMd_send 106 (40, 0, 7, 6, 109, []) := sd_getf 0 7 6 [] (da dk_Md_send (k := 60) rfl) rfl (by decide) hin_7 w_656
theorem k_Md_send_109 : am_Snd gG mt yMd_send 109 (1, 0, 7, 0, 111, []) := sd_iload 0 7 0 [] (da dk_Md_send (k := 61) rfl)
theorem k_Md_send_111 : am_Snd gG mt yMd_send 111 (15, 0, 0, 0, 112, []) := sd_dup2 0 0 0 [] (da dk_Md_send (k := 62) rfl)
theorem k_Md_send_112 : am_Snd gG mt yMd_send 112 (42, 0, 0, 0, 113, []) := sd_iald 0 0 0 [] (da dk_Md_send (k := 63) rfl) rfl rfl
theorem k_Md_send_113 : am_Snd gG mt yMd_send 113 (0, 1, 0, 0, 114, []) := sd_iconst 1 0 0 [] (da dk_Md_send (k := 64) rfl)
theorem k_Md_send_114 : am_Snd gG mt yMd_send 114 (6, 0, 0, 0, 115, []) := sd_iadd 0 0 0 [] (da dk_Md_send (k := 65) rfl)
theorem k_Md_send_115 : am_Snd gG mt yMd_send 115 (46, 0, 0, 0, 116, []) := sd_iast 0 0 0 [] (da dk_Md_send (k := 66) rfl) rfl rfl
theorem k_Md_send_116 : am_Snd gG mt yMd_send 116 (5, (-1), 8, 0, 119, []) := sd_iinc (-1) 8 0 [] (da dk_Md_send (k := 67) rfl)
theorem k_Md_send_119 : am_Snd gG mt yMd_send 119 (26, 0, 56, 0, 122, []) := sd_goto 0 56 0 122 [] (da dk_Md_send (k := 68) rfl) (by decide)
theorem k_Md_send_122 : am_Snd gG mt yMd_send 122 (2, 0, 0, 0, 123, []) := sd_aload_n 0 0 0 [] rfl (da dk_Md_send (k := 69) rfl)
theorem k_Md_send_123 : am_Snd gG mt yMd_send 123 (2, 0, 0, 0, 124, []) := sd_aload_n 0 0 0 [] rfl (da dk_Md_send (k := 70) rfl)
theorem k_Md_send_124 : am_Snd gG mt yMd_send 124 (40, 0, 7, 18, 127, []) := sd_getf 0 7 18 [] (da dk_Md_send (k := 71) rfl) rfl (by decide) hin_7 w_668
theorem k_Md_send_127 : am_Snd gG mt yMd_send 127 (0, 23, 0, 0, 129, []) := sd_bipush 23 0 0 [] (da dk_Md_send (k := 72) rfl) (by decide)
theorem k_Md_send_129 : am_Snd gG mt yMd_send 129 (1, 0, 6, 0, 131, []) := sd_iload 0 6 0 [] (da dk_Md_send (k := 73) rfl)
theorem k_Md_send_131 : am_Snd gG mt yMd_send 131 (8, 0, 0, 0, 132, []) := sd_imul 0 0 0 [] (da dk_Md_send (k := 74) rfl)
theorem k_Md_send_132 : am_Snd gG mt yMd_send 132 (61, 2, 98, 3, 135, [(0, 7)]) := sd_callV 2 98 3 7 mt_98 (da dk_Md_send (k := 75) rfl) gG_ok rfl w_769 (List.forall_mem_cons.2 ⟨w_766, List.forall_mem_cons.2 ⟨w_768, List.forall_mem_cons.2 ⟨w_18, List.forall_mem_cons.2 ⟨w_53, fun _ h => absurd h List.not_mem_nil⟩⟩⟩⟩) hd_98 (by decide) rfl (Nat.le_of_ble_eq_true rfl) (Nat.le_of_ble_eq_true rfl)
theorem k_Md_send_135 : am_Snd gG mt yMd_send 135 (2, 0, 0, 0, 136, []) := sd_aload_n 0 0 0 [] rfl (da dk_Md_send (k := 76) rfl)
theorem k_Md_send_136 : am_Snd gG mt yMd_send 136 (1, 0, 7, 0, 138, []) := sd_iload 0 7 0 [] (da dk_Md_send (k := 77) rfl)
theorem k_Md_send_138 : am_Snd gG mt yMd_send 138 (2, 0, 0, 0, 139, []) := sd_aload_n 0 0 0 [] rfl (da dk_Md_send (k := 78) rfl)
theorem k_Md_send_139 : am_Snd gG mt yMd_send 139 (40, 0, 7, 18, 142, []) := sd_getf 0 7 18 [] (da dk_Md_send (k := 79) rfl) rfl (by decide) hin_7 w_668
theorem k_Md_send_142 : am_Snd gG mt yMd_send 142 (0, 23, 0, 0, 144, []) := sd_bipush 23 0 0 [] (da dk_Md_send (k := 80) rfl) (by decide)
theorem k_Md_send_144 : am_Snd gG mt yMd_send 144 (1, 0, 6, 0, 146, []) := sd_iload 0 6 0 [] (da dk_Md_send (k := 81) rfl)
theorem k_Md_send_146 : am_Snd gG mt yMd_send 146 (8, 0, 0, 0, 147, []) := sd_imul 0 0 0 [] (da dk_Md_send (k := 82) rfl)
theorem k_Md_send_147 : am_Snd gG mt yMd_send 147 (61, 0, 103, 4, 150, [(0, 7)]) := sd_callV 0 103 4 7 mt_103 (da dk_Md_send (k := 83) rfl) gG_ok rfl w_789 (List.forall_mem_cons.2 ⟨w_786, List.forall_mem_cons.2 ⟨w_788, List.forall_mem_cons.2 ⟨w_23, List.forall_mem_cons.2 ⟨w_53, fun _ h => absurd h List.not_mem_nil⟩⟩⟩⟩) hd_103 (by decide) rfl (Nat.le_of_ble_eq_true rfl) (Nat.le_of_ble_eq_true rfl)
theorem k_Md_send_150 : am_Snd gG mt yMd_send 150 (30, 0, 156, 1, 153, []) := sd_if_ne 0 156 [] (da dk_Md_send (k := 84) rfl) (by decide)
theorem k_Md_send_153 : am_Snd gG mt yMd_send 153 (0, (-4), 0, 0, 155, []) := sd_bipush (-4) 0 0 [] (da dk_Md_send (k := 85) rfl) (by decide)
theorem k_Md_send_155 : am_Snd gG mt yMd_send 155 (71, 0, 0, 0, 156, []) := sd_iret 0 0 0 156 [] (da dk_Md_send (k := 86) rfl) rfl
theorem k_Md_send_156 : am_Snd gG mt yMd_send 156 (2, 0, 0, 0, 157, []) := sd_aload_n 0 0 0 [] rfl (da dk_Md_send (k := 87) rfl)
theorem k_Md_send_157 : am_Snd gG mt yMd_send 157 (61, 4, 108, 1, 160, [(0, 7)]) := sd_callV 4 108 1 7 mt_108 (da dk_Md_send (k := 88) rfl) gG_ok rfl w_809 (List.forall_mem_cons.2 ⟨w_806, List.forall_mem_cons.2 ⟨w_808, List.forall_mem_cons.2 ⟨w_28, List.forall_mem_cons.2 ⟨w_53, fun _ h => absurd h List.not_mem_nil⟩⟩⟩⟩) hd_108 (by decide) rfl (Nat.le_of_ble_eq_true rfl) (Nat.le_of_ble_eq_true rfl)
theorem k_Md_send_160 : am_Snd gG mt yMd_send 160 (2, 0, 0, 0, 161, []) := sd_aload_n 0 0 0 [] rfl (da dk_Md_send (k := 89) rfl)
theorem k_Md_send_161 : am_Snd gG mt yMd_send 161 (40, 0, 7, 15, 164, []) := sd_getf 0 7 15 [] (da dk_Md_send (k := 90) rfl) rfl (by decide) hin_7 w_665
theorem k_Md_send_164 : am_Snd gG mt yMd_send 164 (0, 400, 0, 0, 167, []) := sd_sipush 400 0 0 [] (da dk_Md_send (k := 91) rfl) (by decide)
theorem k_Md_send_167 : am_Snd gG mt yMd_send 167 (1, 0, 6, 0, 169, []) := sd_iload 0 6 0 [] (da dk_Md_send (k := 92) rfl)
theorem k_Md_send_169 : am_Snd gG mt yMd_send 169 (8, 0, 0, 0, 170, []) := sd_imul 0 0 0 [] (da dk_Md_send (k := 93) rfl)
theorem k_Md_send_170 : am_Snd gG mt yMd_send 170 (1, 0, 7, 0, 172, []) := sd_iload 0 7 0 [] (da dk_Md_send (k := 94) rfl)
theorem k_Md_send_172 : am_Snd gG mt yMd_send 172 (6, 0, 0, 0, 173, []) := sd_iadd 0 0 0 [] (da dk_Md_send (k := 95) rfl)
theorem k_Md_send_173 : am_Snd gG mt yMd_send 173 (0, 1, 0, 0, 174, []) := sd_iconst 1 0 0 [] (da dk_Md_send (k := 96) rfl)
theorem k_Md_send_174 : am_Snd gG mt yMd_send 174 (49, 0, 1, 0, 175, []) := sd_bast 0 1 0 [] (da dk_Md_send (k := 97) rfl) rfl rfl
theorem k_Md_send_175 : am_Snd gG mt yMd_send 175 (2, 0, 0, 0, 176, []) := sd_aload_n 0 0 0 [] rfl (da dk_Md_send (k := 98) rfl)
theorem k_Md_send_176 : am_Snd gG mt yMd_send 176 (1, 0, 6, 0, 178, []) := sd_iload 0 6 0 [] (da dk_Md_send (k := 99) rfl)
theorem k_Md_send_178 : am_Snd gG mt yMd_send 178 (61, 1, 124, 2, 181, [(0, 7)]) := sd_callV 1 124 2 7 mt_124 (da dk_Md_send (k := 100) rfl) gG_ok rfl w_873 (List.forall_mem_cons.2 ⟨w_870, List.forall_mem_cons.2 ⟨w_872, List.forall_mem_cons.2 ⟨w_42, List.forall_mem_cons.2 ⟨w_53, fun _ h => absurd h List.not_mem_nil⟩⟩⟩⟩) hd_124 (by decide) rfl (Nat.le_of_ble_eq_true rfl) (Nat.le_of_ble_eq_true rfl)
theorem k_Md_send_181 : am_Snd gG mt yMd_send 181 (1, 0, 7, 0, 183, []) := sd_iload 0 7 0 [] (da dk_Md_send (k := 101) rfl)
theorem k_Md_send_183 : am_Snd gG mt yMd_send 183 (71, 0, 0, 0, 184, []) := sd_iret 0 0 0 184 [] (da dk_Md_send (k := 102) rfl) rfl
set_option maxRecDepth 20000 in
theorem ks_Md_send : ∀ q ∈ tMd_send, am_Snd gG mt yMd_send q.1 q.2 := List.forall_mem_cons.2 ⟨k_Md_send_0, List.forall_mem_cons.2 ⟨k_Md_send_1, List.forall_mem_cons.2 ⟨k_Md_send_2, List.forall_mem_cons.2 ⟨k_Md_send_3, List.forall_mem_cons.2 ⟨k_Md_send_5, List.forall_mem_cons.2 ⟨k_Md_send_8, List.forall_mem_cons.2 ⟨k_Md_send_11, List.forall_mem_cons.2 ⟨k_Md_send_12, List.forall_mem_cons.2 ⟨k_Md_send_13, List.forall_mem_cons.2 ⟨k_Md_send_14, List.forall_mem_cons.2 ⟨k_Md_send_17, List.forall_mem_cons.2 ⟨k_Md_send_20, List.forall_mem_cons.2 ⟨k_Md_send_23, List.forall_mem_cons.2 ⟨k_Md_send_25, List.forall_mem_cons.2 ⟨k_Md_send_26, List.forall_mem_cons.2 ⟨k_Md_send_27, List.forall_mem_cons.2 ⟨k_Md_send_28, List.forall_mem_cons.2 ⟨k_Md_send_29, List.forall_mem_cons.2 ⟨k_Md_send_31, List.forall_mem_cons.2 ⟨k_Md_send_32, List.forall_mem_cons.2 ⟨k_Md_send_35, List.forall_mem_cons.2 ⟨k_Md_send_37, List.forall_mem_cons.2 ⟨k_Md_send_38, List.forall_mem_cons.2 ⟨k_Md_send_39, List.forall_mem_cons.2 ⟨k_Md_send_40, List.forall_mem_cons.2 ⟨k_Md_send_41, List.forall_mem_cons.2 ⟨k_Md_send_43, List.forall_mem_cons.2 ⟨k_Md_send_45, List.forall_mem_cons.2 ⟨k_Md_send_48, List.forall_mem_cons.2 ⟨k_Md_send_49, List.forall_mem_cons.2 ⟨k_Md_send_52, List.forall_mem_cons.2 ⟨k_Md_send_53, List.forall_mem_cons.2 ⟨k_Md_send_54, List.forall_mem_cons.2 ⟨k_Md_send_56, List.forall_mem_cons.2 ⟨k_Md_send_58, List.forall_mem_cons.2 ⟨k_Md_send_61, List.forall_mem_cons.2 ⟨k_Md_send_62, List.forall_mem_cons.2 ⟨k_Md_send_65, List.forall_mem_cons.2 ⟨k_Md_send_67, List.forall_mem_cons.2 ⟨k_Md_send_68, List.forall_mem_cons.2 ⟨k_Md_send_69, List.forall_mem_cons.2 ⟨k_Md_send_72, List.forall_mem_cons.2 ⟨k_Md_send_73, List.forall_mem_cons.2 ⟨k_Md_send_75, List.forall_mem_cons.2 ⟨k_Md_send_77, List.forall_mem_cons.2 ⟨k_Md_send_80, List.forall_mem_cons.2 ⟨k_Md_send_83, List.forall_mem_cons.2 ⟨k_Md_send_86, List.forall_mem_cons.2 ⟨k_Md_send_87, List.forall_mem_cons.2 ⟨k_Md_send_90, List.forall_mem_cons.2 ⟨k_Md_send_91, List.forall_mem_cons.2 ⟨k_Md_send_93, List.forall_mem_cons.2 ⟨k_Md_send_94, List.forall_mem_cons.2 ⟨k_Md_send_95, List.forall_mem_cons.2 ⟨k_Md_send_98, List.forall_mem_cons.2 ⟨k_Md_send_100, List.forall_mem_cons.2 ⟨k_Md_send_101, List.forall_mem_cons.2 ⟨k_Md_send_102, List.forall_mem_cons.2 ⟨k_Md_send_104, List.forall_mem_cons.2 ⟨k_Md_send_105, List.forall_mem_cons.2 ⟨k_Md_send_106, List.forall_mem_cons.2 ⟨k_Md_send_109, List.forall_mem_cons.2 ⟨k_Md_send_111, List.forall_mem_cons.2 ⟨k_Md_send_112, List.forall_mem_cons.2 ⟨k_Md_send_113, List.forall_mem_cons.2 ⟨k_Md_send_114, List.forall_mem_cons.2 ⟨k_Md_send_115, List.forall_mem_cons.2 ⟨k_Md_send_116, List.forall_mem_cons.2 ⟨k_Md_send_119, List.forall_mem_cons.2 ⟨k_Md_send_122, List.forall_mem_cons.2 ⟨k_Md_send_123, List.forall_mem_cons.2 ⟨k_Md_send_124, List.forall_mem_cons.2 ⟨k_Md_send_127, List.forall_mem_cons.2 ⟨k_Md_send_129, List.forall_mem_cons.2 ⟨k_Md_send_131, List.forall_mem_cons.2 ⟨k_Md_send_132, List.forall_mem_cons.2 ⟨k_Md_send_135, List.forall_mem_cons.2 ⟨k_Md_send_136, List.forall_mem_cons.2 ⟨k_Md_send_138, List.forall_mem_cons.2 ⟨k_Md_send_139, List.forall_mem_cons.2 ⟨k_Md_send_142, List.forall_mem_cons.2 ⟨k_Md_send_144, List.forall_mem_cons.2 ⟨k_Md_send_146, List.forall_mem_cons.2 ⟨k_Md_send_147, List.forall_mem_cons.2 ⟨k_Md_send_150, List.forall_mem_cons.2 ⟨k_Md_send_153, List.forall_mem_cons.2 ⟨k_Md_send_155, List.forall_mem_cons.2 ⟨k_Md_send_156, List.forall_mem_cons.2 ⟨k_Md_send_157, List.forall_mem_cons.2 ⟨k_Md_send_160, List.forall_mem_cons.2 ⟨k_Md_send_161, List.forall_mem_cons.2 ⟨k_Md_send_164, List.forall_mem_cons.2 ⟨k_Md_send_167, List.forall_mem_cons.2 ⟨k_Md_send_169, List.forall_mem_cons.2 ⟨k_Md_send_170, List.forall_mem_cons.2 ⟨k_Md_send_172, List.forall_mem_cons.2 ⟨k_Md_send_173, List.forall_mem_cons.2 ⟨k_Md_send_174, List.forall_mem_cons.2 ⟨k_Md_send_175, List.forall_mem_cons.2 ⟨k_Md_send_176, List.forall_mem_cons.2 ⟨k_Md_send_178, List.forall_mem_cons.2 ⟨k_Md_send_181, List.forall_mem_cons.2 ⟨k_Md_send_183, fun _ h => absurd h List.not_mem_nil⟩⟩⟩⟩⟩⟩⟩⟩⟩⟩⟩⟩⟩⟩⟩⟩⟩⟩⟩⟩⟩⟩⟩⟩⟩⟩⟩⟩⟩⟩⟩⟩⟩⟩⟩⟩⟩⟩⟩⟩⟩⟩⟩⟩⟩⟩⟩⟩⟩⟩⟩⟩⟩⟩⟩⟩⟩⟩⟩⟩⟩⟩⟩⟩⟩⟩⟩⟩⟩⟩⟩⟩⟩⟩⟩⟩⟩⟩⟩⟩⟩⟩⟩⟩⟩⟩⟩⟩⟩⟩⟩⟩⟩⟩⟩⟩⟩⟩⟩⟩⟩⟩⟩
def dl_Md_wrong : List (Nat × Instr × Nat) := [(0, .iload_n 0, 1), (1, .ifCond .lt 18, 3), (4, .iload_n 0, 1), (5, .bipush 12, 2), (7, .if_icmp .ge 12, 3), (10, .iload_n 1, 1), (11, .ifCond .lt 8, 3), (14, .iload_n 1, 1), (15, .iconst 5, 1), (16, .if_icmp .le 5, 3), (19, .iconst 1, 1), (20, .ireturn, 1), (21, .iload_n 1, 1), (22, .iconst 1, 1), (23, .if_icmp .eq 8, 3), (26, .iload_n 1, 1), (27, .iconst 2, 1), (28, .if_icmp .ne 15, 3), (31, .iload_n 2, 1), (32, .ifCond .lt 9, 3), (35, .iload_n 2, 1), (36, .bipush 12, 2), (38, .if_icmp .lt 5, 3), (41, .iconst 1, 1), (42, .ireturn, 1), (43, .iload_n 1, 1), (44, .iconst 4, 1), (45, .if_icmp .ne 13, 3), (48, .iload_n 2, 1), (49, .ifCond .lt 26, 3), (52, .iload_n 2, 1), (53, .bipush 7, 2), (55, .if_icmp .gt 20, 3), (58, .iload_n 1, 1), (59, .iconst 2, 1), (60, .if_icmp .ne 19, 3), (63, .iload_n 3, 1), (64, .bipush (-100), 2), (66, .if_icmp .lt 9, 3), (69, .iload_n 3, 1), (70, .bipush 100, 2), (72, .if_icmp .le 7, 3), (75, .iconst 1, 1), (76, .goto 4, 3), (79, .iconst 0, 1), (80, .ireturn, 1)]
set_option maxRecDepth 20000 in
theorem dk_Md_wrong : (dl_Md_wrong.all fun q => decide (decode prog_10_method_31_code q.1 = .ok (q.2.1, q.2.2))) = true := by decide +kernel
theorem k_Md_wrong_0 : am_Snd gG mt yMd_wrong 0 (1, 0, 0, 0, 1, []) := sd_iload_n 0 0 0 [] rfl (da dk_Md_wrong (k := 0) rfl)
theorem k_Md_wrong_1 : am_Snd gG mt yMd_wrong 1 (30, 0, 19, 2, 4, []) := sd_if_lt 0 19 [] (da dk_Md_wrong (k := 1) rfl) (by decide)
theorem k_Md_wrong_4 : am_Snd gG mt yMd_wrong 4 (1, 0, 0, 0, 5, []) := sd_iload_n 0 0 0 [] rfl (da dk_Md_wrong (k := 2) rfl)
theorem k_Md_wrong_5 : am_Snd gG mt yMd_wrong 5 (0, 12, 0, 0, 7, []) := sd_bipush 12 0 0 [] (da dk_Md_wrong (k := 3) rfl) (by decide)
theorem k_Md_wrong_7 : am_Snd gG mt yMd_wrong 7 (31, 0, 19, 3, 10, []) := sd_icmp_ge 0 19 [] (da dk_Md_wrong (k := 4) rfl) (by decide)
theorem k_Md_wrong_10 : am_Snd gG mt yMd_wrong 10 (1, 0, 1, 0, 11, []) := sd_iload_n 0 1 0 [] rfl (da dk_Md_wrong (k := 5) rfl)
theorem k_Md_wrong_11 : am_Snd gG mt yMd_wrong 11 (30, 0, 19, 2, 14, []) := sd_if_lt 0 19 [] (da dk_Md_wrong (k := 6) rfl) (by decide)
theorem k_Md_wrong_14 : am_Snd gG mt yMd_wrong 14 (1, 0, 1, 0, 15, []) := sd_iload_n 0 1 0 [] rfl (da dk_Md_wrong (k := 7) rfl)
theorem k_Md_wrong_15 : am_Snd gG mt yMd_wrong 15 (0, 5, 0, 0, 16, []) := sd_iconst 5 0 0 [] (da dk_Md_wrong (k := 8) rfl)
theorem k_Md_wrong_16 : am_Snd gG mt yMd_wrong 16 (31, 0, 21, 5, 19, []) := sd_icmp_le 0 21 [] (da dk_Md_wrong (k := 9) rfl) (by decide)
theorem k_Md_wrong_19 : am_Snd gG mt yMd_wrong 19 (0, 1, 0, 0, 20, []) := sd_iconst 1 0 0 [] (da dk_Md_wrong (k := 10) rfl)
theorem k_Md_wrong_20 : am_Snd gG mt yMd_wrong 20 (72, 0, 0, 0, 21, []) := sd_zret 0 0 0 21 [] (da dk_Md_wrong (k := 11) rfl) rfl
theorem k_Md_wrong_21 : am_Snd gG mt yMd_wrong 21 (1, 0, 1, 0, 22, []) := sd_iload_n 0 1 0 [] rfl (da dk_Md_wrong (k := 12) rfl)
theorem k_Md_wrong_22 : am_Snd gG mt yMd_wrong 22 (0, 1, 0, 0, 23, []) := sd_iconst 1 0 0 [] (da dk_Md_wrong (k := 13) rfl)
theorem k_Md_wrong_23 : am_Snd gG mt yMd_wrong 23 (31, 0, 31, 0, 26, []) := sd_icmp_eq 0 31 [] (da dk_Md_wrong (k := 14) rfl) (by decide)
theorem k_Md_wrong_26 : am_Snd gG mt yMd_wrong 26 (1, 0, 1, 0, 27, []) := sd_iload_n 0 1 0 [] rfl (da dk_Md_wrong (k := 15) rfl)
theorem k_Md_wrong_27 : am_Snd gG mt yMd_wrong 27 (0, 2, 0, 0, 28, []) := sd_iconst 2 0 0 [] (da dk_Md_wrong (k := 16) rfl)
theorem k_Md_wrong_28 : am_Snd gG mt yMd_wrong 28 (31, 0, 43, 1, 31, []) := sd_icmp_ne 0 43 [] (da dk_Md_wrong (k := 17) rfl) (by decide)
theorem k_Md_wrong_31 : am_Snd gG mt yMd_wrong 31 (1, 0, 2, 0, 32, []) := sd_iload_n 0 2 0 [] rfl (da dk_Md_wrong (k := 18) rfl)
theorem k_Md_wrong_32 : am_Snd gG mt yMd_wrong 32 (30, 0, 41, 2, 35, []) := sd_if_lt 0 41 [] (da dk_Md_wrong (k := 19) rfl) (by decide)
theorem k_Md_wrong_35 : am_Snd gG mt yMd_wrong 35 (1, 0, 2, 0, 36, []) := sd_iload_n 0 2 0 [] rfl (da dk_Md_wrong (k := 20) rfl)
theorem k_Md_wrong_36 : am_Snd gG mt yMd_wrong 36 (0, 12, 0, 0, 38, []) := sd_bipush 12 0 0 [] (da dk_Md_wrong (k := 21) rfl) (by decide)
theorem k_Md_wrong_38 : am_Snd gG mt yMd_wrong 38 (31, 0, 43, 2, 41, []) := sd_icmp_lt 0 43 [] (da dk_Md_wrong (k := 22) rfl) (by decide)
theorem k_Md_wrong_41 : am_Snd gG mt yMd_wrong 41 (0, 1, 0, 0, 42, []) := sd_iconst 1 0 0 [] (da dk_Md_wrong (k := 23) rfl)
theorem k_Md_wrong_42 : am_Snd gG mt yMd_wrong 42 (72, 0, 0, 0, 43, []) := sd_zret 0 0 0 43 [] (da dk_Md_wrong (k := 24) rfl) rfl
theorem k_Md_wrong_43 : am_Snd gG mt yMd_wrong 43 (1, 0, 1, 0, 44, []) := sd_iload_n 0 1 0 [] rfl (da dk_Md_wrong (k := 25) rfl)
theorem k_Md_wrong_44 : am_Snd gG mt yMd_wrong 44 (0, 4, 0, 0, 45, []) := sd_iconst 4 0 0 [] (da dk_Md_wrong (k := 26) rfl)
theorem k_Md_wrong_45 : am_Snd gG mt yMd_wrong 45 (31, 0, 58, 1, 48, []) := sd_icmp_ne 0 58 [] (da dk_Md_wrong (k := 27) rfl) (by decide)
theorem k_Md_wrong_48 : am_Snd gG mt yMd_wrong 48 (1, 0, 2, 0, 49, []) := sd_iload_n 0 2 0 [] rfl (da dk_Md_wrong (k := 28) rfl)
theorem k_Md_wrong_49 : am_Snd gG mt yMd_wrong 49 (30, 0, 75, 2, 52, []) := sd_if_lt 0 75 [] (da dk_Md_wrong (k := 29) rfl) (by decide)
theorem k_Md_wrong_52 : am_Snd gG mt yMd_wrong 52 (1, 0, 2, 0, 53, []) := sd_iload_n 0 2 0 [] rfl (da dk_Md_wrong (k := 30) rfl)
theorem k_Md_wrong_53 : am_Snd gG mt yMd_wrong 53 (0, 7, 0, 0, 55, []) := sd_bipush 7 0 0 [] (da dk_Md_wrong (k := 31) rfl) (by decide)
theorem k_Md_wrong_55 : am_Snd gG mt yMd_wrong 55 (31, 0, 75, 4, 58, []) := sd_icmp_gt 0 75 [] (da dk_Md_wrong (k := 32) rfl) (by decide)
theorem k_Md_wrong_58 : am_Snd gG mt yMd_wrong 58 (1, 0, 1, 0, 59, []) := sd_iload_n 0 1 0 [] rfl (da dk_Md_wrong (k := 33) rfl)
theorem k_Md_wrong_59 : am_Snd gG mt yMd_wrong 59 (0, 2, 0, 0, 60, []) := sd_iconst 2 0 0 [] (da dk_Md_wrong (k := 34) rfl)
theorem k_Md_wrong_60 : am_Snd gG mt yMd_wrong 60 (31, 0, 79, 1, 63, []) := sd_icmp_ne 0 79 [] (da dk_Md_wrong (k := 35) rfl) (by decide)
theorem k_Md_wrong_63 : am_Snd gG mt yMd_wrong 63 (1, 0, 3, 0, 64, []) := sd_iload_n 0 3 0 [] rfl (da dk_Md_wrong (k := 36) rfl)
theorem k_Md_wrong_64 : am_Snd gG mt yMd_wrong 64 (0, (-100), 0, 0, 66, []) := sd_bipush (-100) 0 0 [] (da dk_Md_wrong (k := 37) rfl) (by decide)
theorem k_Md_wrong_66 : am_Snd gG mt yMd_wrong 66 (31, 0, 75, 2, 69, []) := sd_icmp_lt 0 75 [] (da dk_Md_wrong (k := 38) rfl) (by decide)
theorem k_Md_wrong_69 : am_Snd gG mt yMd_wrong 69 (1, 0, 3, 0, 70, []) := sd_iload_n 0 3 0 [] rfl (da dk_Md_wrong (k := 39) rfl)
theorem k_Md_wrong_70 : am_Snd gG mt yMd_wrong 70 (0, 100, 0, 0, 72, []) := sd_bipush 100 0 0 [] (da dk_Md_wrong (k := 40) rfl) (by decide)
theorem k_Md_wrong_72 : am_Snd gG mt yMd_wrong 72 (31, 0, 79, 5, 75, []) := sd_icmp_le 0 79 [] (da dk_Md_wrong (k := 41) rfl) (by decide)
theorem k_Md_wrong_75 : am_Snd gG mt yMd_wrong 75 (0, 1, 0, 0, 76, []) := sd_iconst 1 0 0 [] (da dk_Md_wrong (k := 42) rfl)
theorem k_Md_wrong_76 : am_Snd gG mt yMd_wrong 76 (26, 0, 80, 0, 79, []) := sd_goto 0 80 0 79 [] (da dk_Md_wrong (k := 43) rfl) (by decide)
theorem k_Md_wrong_79 : am_Snd gG mt yMd_wrong 79 (0, 0, 0, 0, 80, []) := sd_iconst 0 0 0 [] (da dk_Md_wrong (k := 44) rfl)
theorem k_Md_wrong_80 : am_Snd gG mt yMd_wrong 80 (72, 0, 0, 0, 81, []) := sd_zret 0 0 0 81 [] (da dk_Md_wrong (k := 45) rfl) rfl
set_option maxRecDepth 20000 in
theorem ks_Md_wrong : ∀ q ∈ tMd_wrong, am_Snd gG mt yMd_wrong q.1 q.2 := List.forall_mem_cons.2 ⟨k_Md_wrong_0, List.forall_mem_cons.2 ⟨k_Md_wrong_1, List.forall_mem_cons.2 ⟨k_Md_wrong_4, List.forall_mem_cons.2 ⟨k_Md_wrong_5, List.forall_mem_cons.2 ⟨k_Md_wrong_7, List.forall_mem_cons.2 ⟨k_Md_wrong_10, List.forall_mem_cons.2 ⟨k_Md_wrong_11, List.forall_mem_cons.2 ⟨k_Md_wrong_14, List.forall_mem_cons.2 ⟨k_Md_wrong_15, List.forall_mem_cons.2 ⟨k_Md_wrong_16, List.forall_mem_cons.2 ⟨k_Md_wrong_19, List.forall_mem_cons.2 ⟨k_Md_wrong_20, List.forall_mem_cons.2 ⟨k_Md_wrong_21, List.forall_mem_cons.2 ⟨k_Md_wrong_22, List.forall_mem_cons.2 ⟨k_Md_wrong_23, List.forall_mem_cons.2 ⟨k_Md_wrong_26, List.forall_mem_cons.2 ⟨k_Md_wrong_27, List.forall_mem_cons.2 ⟨k_Md_wrong_28, List.forall_mem_cons.2 ⟨k_Md_wrong_31, List.forall_mem_cons.2 ⟨k_Md_wrong_32, List.forall_mem_cons.2 ⟨k_Md_wrong_35, List.forall_mem_cons.2 ⟨k_Md_wrong_36, List.forall_mem_cons.2 ⟨k_Md_wrong_38, List.forall_mem_cons.2 ⟨k_Md_wrong_41, List.forall_mem_cons.2 ⟨k_Md_wrong_42, List.forall_mem_cons.2 ⟨k_Md_wrong_43, List.forall_mem_cons.2 ⟨k_Md_wrong_44, List.forall_mem_cons.2 ⟨k_Md_wrong_45, List.forall_mem_cons.2 ⟨k_Md_wrong_48, List.forall_mem_cons.2 ⟨k_Md_wrong_49, List.forall_mem_cons.2 ⟨k_Md_wrong_52, List.forall_mem_cons.2 ⟨k_Md_wrong_53, List.forall_mem_cons.2 ⟨k_Md_wrong_55, List.forall_mem_cons.2 ⟨k_Md_wrong_58, List.forall_mem_cons.2 ⟨k_Md_wrong_59, List.forall_mem_cons.2 ⟨k_Md_wrong_60, List.forall_mem_cons.2 ⟨k_Md_wrong_63, List.forall_mem_cons.2 ⟨k_Md_wrong_64, List.forall_mem_cons.2 ⟨k_Md_wrong_66, List.forall_mem_cons.2 ⟨k_Md_wrong_69, List.forall_mem_cons.2 ⟨k_Md_wrong_70, List.forall_mem_cons.2 ⟨k_Md_wrong_72, List.forall_mem_cons.2 ⟨k_Md_wrong_75, List.forall_mem_cons.2 ⟨k_Md_wrong_76, List.forall_mem_cons.2 ⟨k_Md_wrong_79, List.forall_mem_cons.2 ⟨k_Md_wrong_80, fun _ h => absurd h List.not_mem_nil⟩⟩⟩⟩⟩⟩⟩⟩⟩⟩⟩⟩⟩⟩⟩⟩⟩⟩⟩⟩⟩⟩⟩⟩⟩⟩⟩⟩⟩⟩⟩⟩⟩⟩⟩⟩⟩⟩⟩⟩⟩⟩⟩⟩⟩⟩
def dl_Md_writeDown : List (Nat × Instr × Nat) := [(0, .aload_n 0, 1), (1, .getfield 131, 3), (4, .istore 6, 2), (6, .aload_n 0, 1), (7, .getfield 9, 3), (10, .iload 6, 2), (12, .iload_n 1, 1), (13, .iastore, 1), (14, .aload_n 0, 1), (15, .getfield 13, 3), (18, .iload 6, 2), (20, .iload_n 2, 1), (21, .iastore, 1), (22, .aload_n 0, 1), (23, .getfield 16, 3), (26, .iload 6, 2), (28, .iload_n 3, 1), (29, .iastore, 1), (30, .aload_n 0, 1), (31, .getfield 19, 3), (34, .iload 6, 2), (36, .iload 4, 2), (38, .iastore, 1), (39, .aload_n 0, 1), (40, .getfield 22, 3), (43, .iload 6, 2), (45, .iload 5, 2), (47, .iastore, 1), (48, .aload_n 0, 1), (49, .getfield 28, 3), (52, .iload 6, 2), (54, .iconst 0, 1), (55, .iastore, 1), (56, .aload_n 0, 1), (57, .getfield 34, 3), (60, .iload 6, 2), (62, .iconst 0, 1), (63, .iastore, 1), (64, .return_, 1)]
set_option maxRecDepth 20000 in
theorem dk_Md_writeDown : (dl_Md_writeDown.all fun q => decide (decode prog_10_method_27_code q.1 = .ok (q.2.1, q.2.2))) = true := by decide +kernel
theorem k_Md_writeDown_0 : am_Snd gG mt yMd_writeDown 0 (2, 0, 0, 0, 1, []) := sd_aload_n 0 0 0 [] rfl (da dk_Md_writeDown (k := 0) rfl)
theorem k_Md_writeDown_1 : am_Snd gG mt yMd_writeDown 1 (40, 0, 7, 14, 4, []) := sd_getf 0 7 14 [] (da dk_Md_writeDown (k := 1) rfl) rfl (by decide) hin_7 w_664
theorem k_Md_writeDown_4 : am_Snd gG mt yMd_writeDown 4 (3, 0, 6, 0, 6, []) := sd_istore 0 6 0 [] (da dk_Md_writeDown (k := 2) rfl)
theorem k_Md_writeDown_6 : am_Snd gG mt yMd_writeDown 6 (2, 0, 0, 0, 7, []) := sd_aload_n 0 0 0 [] rfl (da dk_Md_writeDown (k := 3) rfl)
theorem k_Md_writeDown_7 : am_Snd gG mt yMd_writeDown 7 (40, 0, 7, 0, 10, []) := sd_getf 0 7 0 [] (da dk_Md_writeDown (k := 4) rfl) rfl (by decide) hin_7 w_650
theorem k_Md_writeDown_10 : am_Snd gG mt yMd_writeDown 10 (1, 0, 6, 0, 12, []) := sd_iload 0 6 0 [] (da dk_Md_writeDown (k := 5) rfl)
theorem k_Md_writeDown_12 : am_Snd gG mt yMd_writeDown 12 (1, 0, 1, 0, 13, []) := sd_iload_n 0 1 0 [] rfl (da dk_Md_writeDown (k := 6) rfl)
theorem k_Md_writeDown_13 : am_Snd gG mt yMd_writeDown 13 (46, 0, 0, 0, 14, []) := sd_iast 0 0 0 [] (da dk_Md_writeDown (k := 7) rfl) rfl rfl
theorem k_Md_writeDown_14 : am_Snd gG mt yMd_writeDown 14 (2, 0, 0, 0, 15, []) := sd_aload_n 0 0 0 [] rfl (da dk_Md_writeDown (k := 8) rfl)
theorem k_Md_writeDown_15 : am_Snd gG mt yMd_writeDown 15 (40, 0, 7, 1, 18, []) := sd_getf 0 7 1 [] (da dk_Md_writeDown (k := 9) rfl) rfl (by decide) hin_7 w_651
theorem k_Md_writeDown_18 : am_Snd gG mt yMd_writeDown 18 (1, 0, 6, 0, 20, []) := sd_iload 0 6 0 [] (da dk_Md_writeDown (k := 10) rfl)
theorem k_Md_writeDown_20 : am_Snd gG mt yMd_writeDown 20 (1, 0, 2, 0, 21, []) := sd_iload_n 0 2 0 [] rfl (da dk_Md_writeDown (k := 11) rfl)
theorem k_Md_writeDown_21 : am_Snd gG mt yMd_writeDown 21 (46, 0, 0, 0, 22, []) := sd_iast 0 0 0 [] (da dk_Md_writeDown (k := 12) rfl) rfl rfl
theorem k_Md_writeDown_22 : am_Snd gG mt yMd_writeDown 22 (2, 0, 0, 0, 23, []) := sd_aload_n 0 0 0 [] rfl (da dk_Md_writeDown (k := 13) rfl)
theorem k_Md_writeDown_23 : am_Snd gG mt yMd_writeDown 23 (40, 0, 7, 2, 26, []) := sd_getf 0 7 2 [] (da dk_Md_writeDown (k := 14) rfl) rfl (by decide) hin_7 w_652
theorem k_Md_writeDown_26 : am_Snd gG mt yMd_writeDown 26 (1, 0, 6, 0, 28, []) := sd_iload 0 6 0 [] (da dk_Md_writeDown (k := 15) rfl)
theorem k_Md_writeDown_28 : am_Snd gG mt yMd_writeDown 28 (1, 0, 3, 0, 29, []) := sd_iload_n 0 3 0 [] rfl (da dk_Md_writeDown (k := 16) rfl)
theorem k_Md_writeDown_29 : am_Snd gG mt yMd_writeDown 29 (46, 0, 0, 0, 30, []) := sd_iast 0 0 0 [] (da dk_Md_writeDown (k := 17) rfl) rfl rfl
theorem k_Md_writeDown_30 : am_Snd gG mt yMd_writeDown 30 (2, 0, 0, 0, 31, []) := sd_aload_n 0 0 0 [] rfl (da dk_Md_writeDown (k := 18) rfl)
theorem k_Md_writeDown_31 : am_Snd gG mt yMd_writeDown 31 (40, 0, 7, 3, 34, []) := sd_getf 0 7 3 [] (da dk_Md_writeDown (k := 19) rfl) rfl (by decide) hin_7 w_653
theorem k_Md_writeDown_34 : am_Snd gG mt yMd_writeDown 34 (1, 0, 6, 0, 36, []) := sd_iload 0 6 0 [] (da dk_Md_writeDown (k := 20) rfl)
theorem k_Md_writeDown_36 : am_Snd gG mt yMd_writeDown 36 (1, 0, 4, 0, 38, []) := sd_iload 0 4 0 [] (da dk_Md_writeDown (k := 21) rfl)
theorem k_Md_writeDown_38 : am_Snd gG mt yMd_writeDown 38 (46, 0, 0, 0, 39, []) := sd_iast 0 0 0 [] (da dk_Md_writeDown (k := 22) rfl) rfl rfl
theorem k_Md_writeDown_39 : am_Snd gG mt yMd_writeDown 39 (2, 0, 0, 0, 40, []) := sd_aload_n 0 0 0 [] rfl (da dk_Md_writeDown (k := 23) rfl)
theorem k_Md_writeDown_40 : am_Snd gG mt yMd_writeDown 40 (40, 0, 7, 4, 43, []) := sd_getf 0 7 4 [] (da dk_Md_writeDown (k := 24) rfl) rfl (by decide) hin_7 w_654
theorem k_Md_writeDown_43 : am_Snd gG mt yMd_writeDown 43 (1, 0, 6, 0, 45, []) := sd_iload 0 6 0 [] (da dk_Md_writeDown (k := 25) rfl)
theorem k_Md_writeDown_45 : am_Snd gG mt yMd_writeDown 45 (1, 0, 5, 0, 47, []) := sd_iload 0 5 0 [] (da dk_Md_writeDown (k := 26) rfl)
theorem k_Md_writeDown_47 : am_Snd gG mt yMd_writeDown 47 (46, 0, 0, 0, 48, []) := sd_iast 0 0 0 [] (da dk_Md_writeDown (k := 27) rfl) rfl rfl
theorem k_Md_writeDown_48 : am_Snd gG mt yMd_writeDown 48 (2, 0, 0, 0, 49, []) := sd_aload_n 0 0 0 [] rfl (da dk_Md_writeDown (k := 28) rfl)
theorem k_Md_writeDown_49 : am_Snd gG mt yMd_writeDown 49 (40, 0, 7, 6, 52, []) := sd_getf 0 7 6 [] (da dk_Md_writeDown (k := 29) rfl) rfl (by decide) hin_7 w_656
theorem k_Md_writeDown_52 : am_Snd gG mt yMd_writeDown 52 (1, 0, 6, 0, 54, []) := sd_iload 0 6 0 [] (da dk_Md_writeDown (k := 30) rfl)
theorem k_Md_writeDown_54 : am_Snd gG mt yMd_writeDown 54 (0, 0, 0, 0, 55, []) := sd_iconst 0 0 0 [] (da dk_Md_writeDown (k := 31) rfl)
theorem k_Md_writeDown_55 : am_Snd gG mt yMd_writeDown 55 (46, 0, 0, 0, 56, []) := sd_iast 0 0 0 [] (da dk_Md_writeDown (k := 32) rfl) rfl rfl
theorem k_Md_writeDown_56 : am_Snd gG mt yMd_writeDown 56 (2, 0, 0, 0, 57, []) := sd_aload_n 0 0 0 [] rfl (da dk_Md_writeDown (k := 33) rfl)
theorem k_Md_writeDown_57 : am_Snd gG mt yMd_writeDown 57 (40, 0, 7, 8, 60, []) := sd_getf 0 7 8 [] (da dk_Md_writeDown (k := 34) rfl) rfl (by decide) hin_7 w_658
theorem k_Md_writeDown_60 : am_Snd gG mt yMd_writeDown 60 (1, 0, 6, 0, 62, []) := sd_iload 0 6 0 [] (da dk_Md_writeDown (k := 35) rfl)
theorem k_Md_writeDown_62 : am_Snd gG mt yMd_writeDown 62 (0, 0, 0, 0, 63, []) := sd_iconst 0 0 0 [] (da dk_Md_writeDown (k := 36) rfl)
theorem k_Md_writeDown_63 : am_Snd gG mt yMd_writeDown 63 (46, 0, 0, 0, 64, []) := sd_iast 0 0 0 [] (da dk_Md_writeDown (k := 37) rfl) rfl rfl
theorem k_Md_writeDown_64 : am_Snd gG mt yMd_writeDown 64 (70, 0, 0, 0, 65, []) := sd_ret 0 0 0 65 [] (da dk_Md_writeDown (k := 38) rfl) rfl
set_option maxRecDepth 20000 in
theorem ks_Md_writeDown : ∀ q ∈ tMd_writeDown, am_Snd gG mt yMd_writeDown q.1 q.2 := List.forall_mem_cons.2 ⟨k_Md_writeDown_0, List.forall_mem_cons.2 ⟨k_Md_writeDown_1, List.forall_mem_cons.2 ⟨k_Md_writeDown_4, List.forall_mem_cons.2 ⟨k_Md_writeDown_6, List.forall_mem_cons.2 ⟨k_Md_writeDown_7, List.forall_mem_cons.2 ⟨k_Md_writeDown_10, List.forall_mem_cons.2 ⟨k_Md_writeDown_12, List.forall_mem_cons.2 ⟨k_Md_writeDown_13, List.forall_mem_cons.2 ⟨k_Md_writeDown_14, List.forall_mem_cons.2 ⟨k_Md_writeDown_15, List.forall_mem_cons.2 ⟨k_Md_writeDown_18, List.forall_mem_cons.2 ⟨k_Md_writeDown_20, List.forall_mem_cons.2 ⟨k_Md_writeDown_21, List.forall_mem_cons.2 ⟨k_Md_writeDown_22, List.forall_mem_cons.2 ⟨k_Md_writeDown_23, List.forall_mem_cons.2 ⟨k_Md_writeDown_26, List.forall_mem_cons.2 ⟨k_Md_writeDown_28, List.forall_mem_cons.2 ⟨k_Md_writeDown_29, List.forall_mem_cons.2 ⟨k_Md_writeDown_30, List.forall_mem_cons.2 ⟨k_Md_writeDown_31, List.forall_mem_cons.2 ⟨k_Md_writeDown_34, List.forall_mem_cons.2 ⟨k_Md_writeDown_36, List.forall_mem_cons.2 ⟨k_Md_writeDown_38, List.forall_mem_cons.2 ⟨k_Md_writeDown_39, List.forall_mem_cons.2 ⟨k_Md_writeDown_40, List.forall_mem_cons.2 ⟨k_Md_writeDown_43, List.forall_mem_cons.2 ⟨k_Md_writeDown_45, List.forall_mem_cons.2 ⟨k_Md_writeDown_47, List.forall_mem_cons.2 ⟨k_Md_writeDown_48, List.forall_mem_cons.2 ⟨k_Md_writeDown_49, List.forall_mem_cons.2 ⟨k_Md_writeDown_52, List.forall_mem_cons.2 ⟨k_Md_writeDown_54, List.forall_mem_cons.2 ⟨k_Md_writeDown_55, List.forall_mem_cons.2 ⟨k_Md_writeDown_56, List.forall_mem_cons.2 ⟨k_Md_writeDown_57, List.forall_mem_cons.2 ⟨k_Md_writeDown_60, List.forall_mem_cons.2 ⟨k_Md_writeDown_62, List.forall_mem_cons.2 ⟨k_Md_writeDown_63, List.forall_mem_cons.2 ⟨k_Md_writeDown_64, fun _ h => absurd h List.not_mem_nil⟩⟩⟩⟩⟩⟩⟩⟩⟩⟩⟩⟩⟩⟩⟩⟩⟩⟩⟩⟩⟩⟩⟩⟩⟩⟩⟩⟩⟩⟩⟩⟩⟩⟩⟩⟩⟩⟩⟩
def dl_Md_isHead : List (Nat × Instr × Nat) := [(0, .aload_n 0, 1), (1, .getfield 54, 3), (4, .sipush 400, 3), (7, .iload_n 1, 1), (8, .imul, 1), (9, .iload_n 2, 1), (10, .iadd, 1), (11, .baload, 1), (12, .ifCond .ne 5, 3), (15, .iconst 0, 1), (16, .ireturn, 1), (17, .iload_n 2, 1), (18, .iconst 1, 1), (19, .iadd, 1), (20, .istore_n 3, 1), (21, .iload_n 3, 1), (22, .aload_n 0, 1), (23, .getfield 131, 3), (26, .if_icmp .ge 64, 3), (29, .aload_n 0, 1), (30, .getfield 54, 3), (33, .sipush 400, 3), (36, .iload_n 1, 1), (37, .imul, 1), (38, .iload_n 3, 1), (39, .iadd, 1), (40, .baload, 1), (41, .ifCond .ne 6, 3), (44, .goto 40, 3), (47, .iconst 0, 1), (48, .istore 4, 2), (50, .iload 4, 2), (52, .aload_n 0, 1), (53, .getfield 28, 3), (56, .iload_n 3, 1), (57, .iaload, 1), (58, .if_icmp .ge 26, 3), (61, .aload_n 0, 1), (62, .getfield 25, 3), (65, .iconst 4, 1), (66, .iload_n 3, 1), (67, .imul, 1), (68, .iload 4, 2), (70, .iadd, 1), (71, .iaload, 1), (72, .iload_n 2, 1), (73, .if_icmp .ne 5, 3), (76, .iconst 0, 1), (77, .ireturn, 1), (78, .iinc 4 1, 3), (81, .goto (-31), 3), (84, .iinc 3 1, 3), (87, .goto (-66), 3), (90, .iconst 1, 1), (91, .ireturn, 1)]
set_option maxRecDepth 20000 in
theorem dk_Md_isHead : (dl_Md_isHead.all fun q => decide (decode prog_10_method_29_code q.1 = .ok (q.2.1, q.2.2))) = true := by decide +kernel
theorem k_Md_isHead_0 : am_Snd gG mt yMd_isHead 0 (2, 0, 0, 0, 1, []) := sd_aload_n 0 0 0 [] rfl (da dk_Md_isHead (k := 0) rfl)
theorem k_Md_isHead_1 : am_Snd gG mt yMd_isHead 1 (40, 0, 7, 15, 4, []) := sd_getf 0 7 15 [] (da dk_Md_isHead (k := 1) rfl) rfl (by decide) hin_7 w_665
theorem k_Md_isHead_4 : am_Snd gG mt yMd_isHead 4 (0, 400, 0, 0, 7, []) := sd_sipush 400 0 0 [] (da dk_Md_isHead (k := 2) rfl) (by decide)
theorem k_Md_isHead_7 : am_Snd gG mt yMd_isHead 7 (1, 0, 1, 0, 8, []) := sd_iload_n 0 1 0 [] rfl (da dk_Md_isHead (k := 3) rfl)
theorem k_Md_isHead_8 : am_Snd gG mt yMd_isHead 8 (8, 0, 0, 0, 9, []) := sd_imul 0 0 0 [] (da dk_Md_isHead (k := 4) rfl)
theorem k_Md_isHead_9 : am_Snd gG mt yMd_isHead 9 (1, 0, 2, 0, 10, []) := sd_iload_n 0 2 0 [] rfl (da dk_Md_isHead (k := 5) rfl)
theorem k_Md_isHead_10 : am_Snd gG mt yMd_isHead 10 (6, 0, 0, 0, 11, []) := sd_iadd 0 0 0 [] (da dk_Md_isHead (k := 6) rfl)
theorem k_Md_isHead_11 : am_Snd gG mt yMd_isHead 11 (42, 0, 1, 0, 12, []) := sd_bald 0 1 0 [] (da dk_Md_isHead (k := 7) rfl) rfl rfl
theorem k_Md_isHead_12 : am_Snd gG mt yMd_isHead 12 (30, 0, 17, 1, 15, []) := sd_if_ne 0 17 [] (da dk_Md_isHead (k := 8) rfl) (by decide)
theorem k_Md_isHead_15 : am_Snd gG mt yMd_isHead 15 (0, 0, 0, 0, 16, []) := sd_iconst 0 0 0 [] (da dk_Md_isHead (k := 9) rfl)
theorem k_Md_isHead_16 : am_Snd gG mt yMd_isHead 16 (72, 0, 0, 0, 17, []) := sd_zret 0 0 0 17 [] (da dk_Md_isHead (k := 10) rfl) rfl
theorem k_Md_isHead_17 : am_Snd gG mt yMd_isHead 17 (1, 0, 2, 0, 18, []) := sd_iload_n 0 2 0 [] rfl (da dk_Md_isHead (k := 11) rfl)
theorem k_Md_isHead_18 : am_Snd gG mt yMd_isHead 18 (0, 1, 0, 0, 19, []) := sd_iconst 1 0 0 [] (da dk_Md_isHead (k := 12) rfl)
theorem k_Md_isHead_19 : am_Snd gG mt yMd_isHead 19 (6, 0, 0, 0, 20, []) := sd_iadd 0 0 0 [] (da dk_Md_isHead (k := 13) rfl)
theorem k_Md_isHead_20 : am_Snd gG mt yMd_isHead 20 (3, 0, 3, 0, 21, []) := sd_istore_n 0 3 0 [] rfl (da dk_Md_isHead (k := 14) rfl)
theorem k_Md_isHead_21 : am_Snd gG mt yMd_isHead 21 (1, 0, 3, 0, 22, []) := sd_iload_n 0 3 0 [] rfl (da dk_Md_isHead (k := 15) rfl)
theorem k_Md_isHead_22 : am_Snd gG mt yMd_isHead 22 (2, 0, 0, 0, 23, []) := sd_aload_n 0 0 0 [] rfl (da dk_Md_isHead (k := 16) rfl)
theorem k_Md_isHead_23 : am_Snd gG mt yMd_isHead 23 (40, 0, 7, 14, 26, []) := sd_getf 0 7 14 [] (da dk_Md_isHead (k := 17) rfl) rfl (by decide) hin_7 w_664
theorem k_Md_isHead_26 : am_Snd gG mt yMd_isHead 26 (31, 0, 90, 3, 29, []) := sd_icmp_ge 0 90 [] (da dk_Md_isHead (k := 18) rfl) (by decide)
theorem k_Md_isHead_29 : am_Snd gG mt yMd_isHead 29 (2, 0, 0, 0, 30, []) := sd_aload_n 0 0 0 [] rfl (da dk_Md_isHead (k := 19) rfl)
theorem k_Md_isHead_30 : am_Snd gG mt yMd_isHead 30 (40, 0, 7, 15, 33, []) := sd_getf 0 7 15 [] (da dk_Md_isHead (k := 20) rfl) rfl (by decide) hin_7 w_665
theorem k_Md_isHead_33 : am_Snd gG mt yMd_isHead 33 (0, 400, 0, 0, 36, []) := sd_sipush 400 0 0 [] (da dk_Md_isHead (k := 21) rfl) (by decide)
theorem k_Md_isHead_36 : am_Snd gG mt yMd_isHead 36 (1, 0, 1, 0, 37, []) := sd_iload_n 0 1 0 [] rfl (da dk_Md_isHead (k := 22) rfl)
theorem k_Md_isHead_37 : am_Snd gG mt yMd_isHead 37 (8, 0, 0, 0, 38, []) := sd_imul 0 0 0 [] (da dk_Md_isHead (k := 23) rfl)
theorem k_Md_isHead_38 : am_Snd gG mt yMd_isHead 38 (1, 0, 3, 0, 39, []) := sd_iload_n 0 3 0 [] rfl (da dk_Md_isHead (k := 24) rfl)
theorem k_Md_isHead_39 : am_Snd gG mt yMd_isHead 39 (6, 0, 0, 0, 40, []) := sd_iadd 0 0 0 [] (da dk_Md_isHead (k := 25) rfl)
theorem k_Md_isHead_40 : am_Snd gG mt yMd_isHead 40 (42, 0, 1, 0, 41, []) := sd_bald 0 1 0 [] (da dk_Md_isHead (k := 26) rfl) rfl rfl
theorem k_Md_isHead_41 : am_Snd gG mt yMd_isHead 41 (30, 0, 47, 1, 44, []) := sd_if_ne 0 47 [] (da dk_Md_isHead (k := 27) rfl) (by decide)
theorem k_Md_isHead_44 : am_Snd gG mt yMd_isHead 44 (26, 0, 84, 0, 47, []) := sd_goto 0 84 0 47 [] (da dk_Md_isHead (k := 28) rfl) (by decide)
theorem k_Md_isHead_47 : am_Snd gG mt yMd_isHead 47 (0, 0, 0, 0, 48, []) := sd_iconst 0 0 0 [] (da dk_Md_isHead (k := 29) rfl)
theorem k_Md_isHead_48 : am_Snd gG mt yMd_isHead 48 (3, 0, 4, 0, 50, []) := sd_istore 0 4 0 [] (da dk_Md_isHead (k := 30) rfl)
theorem k_Md_isHead_50 : am_Snd gG mt yMd_isHead 50 (1, 0, 4, 0, 52, []) := sd_iload 0 4 0 [] (da dk_Md_isHead (k := 31) rfl)
theorem k_Md_isHead_52 : am_Snd gG mt yMd_isHead 52 (2, 0, 0, 0, 53, []) := sd_aload_n 0 0 0 [] rfl (da dk_Md_isHead (k := 32) rfl)
theorem k_Md_isHead_53 : am_Snd gG mt yMd_isHead 53 (40, 0, 7, 6, 56, []) := sd_getf 0 7 6 [] (da dk_Md_isHead (k := 33) rfl) rfl (by decide) hin_7 w_656
theorem k_Md_isHead_56 : am_Snd gG mt yMd_isHead 56 (1, 0, 3, 0, 57, []) := sd_iload_n 0 3 0 [] rfl (da dk_Md_isHead (k := 34) rfl)
theorem k_Md_isHead_57 : am_Snd gG mt yMd_isHead 57 (42, 0, 0, 0, 58, []) := sd_iald 0 0 0 [] (da dk_Md_isHead (k := 35) rfl) rfl rfl
theorem k_Md_isHead_58 : am_Snd gG mt yMd_isHead 58 (31, 0, 84, 3, 61, []) := sd_icmp_ge 0 84 [] (da dk_Md_isHead (k := 36) rfl) (by decide)
theorem k_Md_isHead_61 : am_Snd gG mt yMd_isHead 61 (2, 0, 0, 0, 62, []) := sd_aload_n 0 0 0 [] rfl (da dk_Md_isHead (k := 37) rfl)
theorem k_Md_isHead_62 : am_Snd gG mt yMd_isHead 62 (40, 0, 7, 5, 65, []) := sd_getf 0 7 5 [] (da dk_Md_isHead (k := 38) rfl) rfl (by decide) hin_7 w_655
theorem k_Md_isHead_65 : am_Snd gG mt yMd_isHead 65 (0, 4, 0, 0, 66, []) := sd_iconst 4 0 0 [] (da dk_Md_isHead (k := 39) rfl)
theorem k_Md_isHead_66 : am_Snd gG mt yMd_isHead 66 (1, 0, 3, 0, 67, []) := sd_iload_n 0 3 0 [] rfl (da dk_Md_isHead (k := 40) rfl)
theorem k_Md_isHead_67 : am_Snd gG mt yMd_isHead 67 (8, 0, 0, 0, 68, []) := sd_imul 0 0 0 [] (da dk_Md_isHead (k := 41) rfl)
theorem k_Md_isHead_68 : am_Snd gG mt yMd_isHead 68 (1, 0, 4, 0, 70, []) := sd_iload 0 4 0 [] (da dk_Md_isHead (k := 42) rfl)
theorem k_Md_isHead_70 : am_Snd gG mt yMd_isHead 70 (6, 0, 0, 0, 71, []) := sd_iadd 0 0 0 [] (da dk_Md_isHead (k := 43) rfl)
theorem k_Md_isHead_71 : am_Snd gG mt yMd_isHead 71 (42, 0, 0, 0, 72, []) := sd_iald 0 0 0 [] (da dk_Md_isHead (k := 44) rfl) rfl rfl
theorem k_Md_isHead_72 : am_Snd gG mt yMd_isHead 72 (1, 0, 2, 0, 73, []) := sd_iload_n 0 2 0 [] rfl (da dk_Md_isHead (k := 45) rfl)
theorem k_Md_isHead_73 : am_Snd gG mt yMd_isHead 73 (31, 0, 78, 1, 76, []) := sd_icmp_ne 0 78 [] (da dk_Md_isHead (k := 46) rfl) (by decide)
theorem k_Md_isHead_76 : am_Snd gG mt yMd_isHead 76 (0, 0, 0, 0, 77, []) := sd_iconst 0 0 0 [] (da dk_Md_isHead (k := 47) rfl)
theorem k_Md_isHead_77 : am_Snd gG mt yMd_isHead 77 (72, 0, 0, 0, 78, []) := sd_zret 0 0 0 78 [] (da dk_Md_isHead (k := 48) rfl) rfl
theorem k_Md_isHead_78 : am_Snd gG mt yMd_isHead 78 (5, 1, 4, 0, 81, []) := sd_iinc 1 4 0 [] (da dk_Md_isHead (k := 49) rfl)
theorem k_Md_isHead_81 : am_Snd gG mt yMd_isHead 81 (26, 0, 50, 0, 84, []) := sd_goto 0 50 0 84 [] (da dk_Md_isHead (k := 50) rfl) (by decide)
theorem k_Md_isHead_84 : am_Snd gG mt yMd_isHead 84 (5, 1, 3, 0, 87, []) := sd_iinc 1 3 0 [] (da dk_Md_isHead (k := 51) rfl)
theorem k_Md_isHead_87 : am_Snd gG mt yMd_isHead 87 (26, 0, 21, 0, 90, []) := sd_goto 0 21 0 90 [] (da dk_Md_isHead (k := 52) rfl) (by decide)
theorem k_Md_isHead_90 : am_Snd gG mt yMd_isHead 90 (0, 1, 0, 0, 91, []) := sd_iconst 1 0 0 [] (da dk_Md_isHead (k := 53) rfl)
theorem k_Md_isHead_91 : am_Snd gG mt yMd_isHead 91 (72, 0, 0, 0, 92, []) := sd_zret 0 0 0 92 [] (da dk_Md_isHead (k := 54) rfl) rfl
set_option maxRecDepth 20000 in
theorem ks_Md_isHead : ∀ q ∈ tMd_isHead, am_Snd gG mt yMd_isHead q.1 q.2 := List.forall_mem_cons.2 ⟨k_Md_isHead_0, List.forall_mem_cons.2 ⟨k_Md_isHead_1, List.forall_mem_cons.2 ⟨k_Md_isHead_4, List.forall_mem_cons.2 ⟨k_Md_isHead_7, List.forall_mem_cons.2 ⟨k_Md_isHead_8, List.forall_mem_cons.2 ⟨k_Md_isHead_9, List.forall_mem_cons.2 ⟨k_Md_isHead_10, List.forall_mem_cons.2 ⟨k_Md_isHead_11, List.forall_mem_cons.2 ⟨k_Md_isHead_12, List.forall_mem_cons.2 ⟨k_Md_isHead_15, List.forall_mem_cons.2 ⟨k_Md_isHead_16, List.forall_mem_cons.2 ⟨k_Md_isHead_17, List.forall_mem_cons.2 ⟨k_Md_isHead_18, List.forall_mem_cons.2 ⟨k_Md_isHead_19, List.forall_mem_cons.2 ⟨k_Md_isHead_20, List.forall_mem_cons.2 ⟨k_Md_isHead_21, List.forall_mem_cons.2 ⟨k_Md_isHead_22, List.forall_mem_cons.2 ⟨k_Md_isHead_23, List.forall_mem_cons.2 ⟨k_Md_isHead_26, List.forall_mem_cons.2 ⟨k_Md_isHead_29, List.forall_mem_cons.2 ⟨k_Md_isHead_30, List.forall_mem_cons.2 ⟨k_Md_isHead_33, List.forall_mem_cons.2 ⟨k_Md_isHead_36, List.forall_mem_cons.2 ⟨k_Md_isHead_37, List.forall_mem_cons.2 ⟨k_Md_isHead_38, List.forall_mem_cons.2 ⟨k_Md_isHead_39, List.forall_mem_cons.2 ⟨k_Md_isHead_40, List.forall_mem_cons.2 ⟨k_Md_isHead_41, List.forall_mem_cons.2 ⟨k_Md_isHead_44, List.forall_mem_cons.2 ⟨k_Md_isHead_47, List.forall_mem_cons.2 ⟨k_Md_isHead_48, List.forall_mem_cons.2 ⟨k_Md_isHead_50, List.forall_mem_cons.2 ⟨k_Md_isHead_52, List.forall_mem_cons.2 ⟨k_Md_isHead_53, List.forall_mem_cons.2 ⟨k_Md_isHead_56, List.forall_mem_cons.2 ⟨k_Md_isHead_57, List.forall_mem_cons.2 ⟨k_Md_isHead_58, List.forall_mem_cons.2 ⟨k_Md_isHead_61, List.forall_mem_cons.2 ⟨k_Md_isHead_62, List.forall_mem_cons.2 ⟨k_Md_isHead_65, List.forall_mem_cons.2 ⟨k_Md_isHead_66, List.forall_mem_cons.2 ⟨k_Md_isHead_67, List.forall_mem_cons.2 ⟨k_Md_isHead_68, List.forall_mem_cons.2 ⟨k_Md_isHead_70, List.forall_mem_cons.2 ⟨k_Md_isHead_71, List.forall_mem_cons.2 ⟨k_Md_isHead_72, List.forall_mem_cons.2 ⟨k_Md_isHead_73, List.forall_mem_cons.2 ⟨k_Md_isHead_76, List.forall_mem_cons.2 ⟨k_Md_isHead_77, List.forall_mem_cons.2 ⟨k_Md_isHead_78, List.forall_mem_cons.2 ⟨k_Md_isHead_81, List.forall_mem_cons.2 ⟨k_Md_isHead_84, List.forall_mem_cons.2 ⟨k_Md_isHead_87, List.forall_mem_cons.2 ⟨k_Md_isHead_90, List.forall_mem_cons.2 ⟨k_Md_isHead_91, fun _ h => absurd h List.not_mem_nil⟩⟩⟩⟩⟩⟩⟩⟩⟩⟩⟩⟩⟩⟩⟩⟩⟩⟩⟩⟩⟩⟩⟩⟩⟩⟩⟩⟩⟩⟩⟩⟩⟩⟩⟩⟩⟩⟩⟩⟩⟩⟩⟩⟩⟩⟩⟩⟩⟩⟩⟩⟩⟩⟩⟩
